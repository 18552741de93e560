section
variable {sc : Option (List Int32)} {d rc rs : Nat} {h : ab_H} {P : ab_O → ab_H → Prop}
theorem b_X10_numberOf_34 {r0 : Nat} {l1 : Int32} {l3 : Int32} {s0 : Int32} {s1 : Int32} (k : SW sc m_X10_numberOf d rc rs 4 [some (.ref r0), some (.int l1), some (.int (s0 + s1)), some (.int (l3 + 1))] [] h P) : SW sc m_X10_numberOf d rc rs 34 [some (.ref r0), some (.int l1), none, some (.int l3)] [.int s1, .int s0] h P := by
  refine sw_iadd dX10_numberOf_34 ?_
  refine sw_istore_n dX10_numberOf_35 (by decide) rfl ?_
  show SW sc m_X10_numberOf _ _ _ 36 [some (.ref r0), some (.int l1), some (.int (s0 + s1)), some (.int l3)] [] h P
  refine sw_iinc (v := l3 + 1) dX10_numberOf_36 rfl rfl (by decide) rfl ?_
  show SW sc m_X10_numberOf _ _ _ 39 [some (.ref r0), some (.int l1), some (.int (s0 + s1)), some (.int (l3 + 1))] [] h P
  exact sw_goto dX10_numberOf_39 (by decide) (k)
theorem b_X10_numberOf_42 {l2 : Int32} (hP : P (.inl (some (.int l2))) h) : SW sc m_X10_numberOf d rc rs 42 [none, none, some (.int l2), none] [] h P := by
  refine sw_iload_n dX10_numberOf_42 rfl ?_
  exact sw_ret (v := (some (.int l2))) dX10_numberOf_43 rt_i hP
theorem b_X10_far_0 {r0 : Nat} {l1 : Int32} {l2 : Int32} (k : SW sc m_X10_far d rc rs 7 [some (.ref r0), none, some (.int l2), some (.int (1 <<< (l1 &&& 31))), some (.int 0), none, none] [] h P) : SW sc m_X10_far d rc rs 0 [some (.ref r0), some (.int l1), some (.int l2), none, none, none, none] [] h P := by
  refine sw_iconst (v := 1) dX10_far_0 (by decide) ?_
  refine sw_iload_n dX10_far_1 rfl ?_
  refine sw_ishl dX10_far_2 ?_
  refine sw_istore_n dX10_far_3 (by decide) rfl ?_
  show SW sc m_X10_far _ _ _ 4 [some (.ref r0), some (.int l1), some (.int l2), some (.int (1 <<< (l1 &&& 31))), none, none, none] [] h P
  refine sw_iconst (v := 0) dX10_far_4 (by decide) ?_
  refine sw_istore dX10_far_5 (by decide) rfl ?_
  show SW sc m_X10_far _ _ _ 7 [some (.ref r0), some (.int l1), some (.int l2), some (.int (1 <<< (l1 &&& 31))), some (.int 0), none, none] [] h P
  exact (sw_fg [false, true, false, false, false, false, false] rfl (k))
theorem b_X10_far_7 {r0 : Nat} {l2 : Int32} {l3 : Int32} {l4 : Int32} {v3 : Int32} {g3 : ab_H} {fs3 : List Value} (hr3 : (h)[r0]? = some (10, fs3)) (hm3 : MSE m_X10_many d [.ref r0] h (some (.int v3)) g3) (kt : v3 ≤ l4 → SW sc m_X10_far (d + 1) rc rs 77 [none, none, none, none, none, none, none] [] g3 P) (kf : ¬ (v3 ≤ l4) → SW sc m_X10_far (d + 1) rc rs 16 [some (.ref r0), none, some (.int l2), some (.int l3), some (.int l4), none, none] [] g3 P) : SW sc m_X10_far (d + 1) rc rs 7 [some (.ref r0), none, some (.int l2), some (.int l3), some (.int l4), none, none] [] h P := by
  refine sw_iload dX10_far_7 rfl ?_
  refine sw_aload_n dX10_far_9 rfl ?_
  refine sw_cV (M := m_X10_far) dX10_far_10 lv_X10_66 hm3 hr3 rfl (by decide) rfl rfl rfl (Nat.le_of_ble_eq_true rfl) (fun _ _ => rfl) rfl ?_
  show SW sc m_X10_far _ _ _ 13 [some (.ref r0), none, some (.int l2), some (.int l3), some (.int l4), none, none] [.int v3, .int l4] g3 P
  exact sw_icmp_ge dX10_far_13 (by decide) (fun q => (sw_fg [true, false, true, true, true, false, false] rfl (kt q))) (fun q => (kf q))
theorem b_X10_far_16 {r0 : Nat} {l2 : Int32} {l3 : Int32} {l4 : Int32} {v3 : Int32} {g3 : ab_H} (hm3 : MSE m_X10_has d [.int l3, .int l2] h (some (.int v3)) g3) (kt : v3 = 0 → SW sc m_X10_far (d + 1) rc rs 27 [some (.ref r0), none, some (.int l2), some (.int l3), some (.int l4), none, none] [] g3 P) (kf : ¬ (v3 = 0) → SW sc m_X10_far (d + 1) rc rs 24 [none, none, none, none, some (.int l4), none, none] [] g3 P) : SW sc m_X10_far (d + 1) rc rs 16 [some (.ref r0), none, some (.int l2), some (.int l3), some (.int l4), none, none] [] h P := by
  refine sw_iload_n dX10_far_16 rfl ?_
  refine sw_iload_n dX10_far_17 rfl ?_
  refine sw_cS (M := m_X10_far) dX10_far_18 ls_X10_70 hm3 rfl rfl (Nat.le_of_ble_eq_true rfl) (fun _ _ => rfl) rfl ?_
  show SW sc m_X10_far _ _ _ 21 [some (.ref r0), none, some (.int l2), some (.int l3), some (.int l4), none, none] [.int v3] g3 P
  exact sw_if_eq dX10_far_21 (by decide) (fun q => (kt q)) (fun q => (sw_fg [true, false, true, true, false, false, false] rfl (kf q)))
theorem b_X10_far_24 {l4 : Int32} (hP : P (.inl (some (.int l4))) h) : SW sc m_X10_far d rc rs 24 [none, none, none, none, some (.int l4), none, none] [] h P := by
  refine sw_iload dX10_far_24 rfl ?_
  exact sw_ret (v := (some (.int l4))) dX10_far_26 rt_i hP
theorem b_X10_far_27 {r0 : Nat} {l2 : Int32} {l3 : Int32} {l4 : Int32} (k : SW sc m_X10_far d rc rs 33 [some (.ref r0), none, some (.int l2), some (.int l3), some (.int l4), some (.int l3), some (.int 0)] [] h P) : SW sc m_X10_far d rc rs 27 [some (.ref r0), none, some (.int l2), some (.int l3), some (.int l4), none, none] [] h P := by
  refine sw_iload_n dX10_far_27 rfl ?_
  refine sw_istore dX10_far_28 (by decide) rfl ?_
  show SW sc m_X10_far _ _ _ 30 [some (.ref r0), none, some (.int l2), some (.int l3), some (.int l4), some (.int l3), none] [] h P
  refine sw_iconst (v := 0) dX10_far_30 (by decide) ?_
  refine sw_istore dX10_far_31 (by decide) rfl ?_
  show SW sc m_X10_far _ _ _ 33 [some (.ref r0), none, some (.int l2), some (.int l3), some (.int l4), some (.int l3), some (.int 0)] [] h P
  exact (k)
theorem b_X10_far_33 {r0 : Nat} {l2 : Int32} {l3 : Int32} {l4 : Int32} {l5 : Int32} {l6 : Int32} {v3 : Int32} {g3 : ab_H} {fs3 : List Value} (hr3 : (h)[r0]? = some (10, fs3)) (hm3 : MSE m_X10_many d [.ref r0] h (some (.int v3)) g3) (kt : v3 ≤ l6 → SW sc m_X10_far (d + 1) rc rs 68 [some (.ref r0), none, some (.int l2), none, some (.int l4), some (.int l5), none] [] g3 P) (kf : ¬ (v3 ≤ l6) → SW sc m_X10_far (d + 1) rc rs 42 [some (.ref r0), none, some (.int l2), some (.int l3), some (.int l4), some (.int l5), some (.int l6)] [] g3 P) : SW sc m_X10_far (d + 1) rc rs 33 [some (.ref r0), none, some (.int l2), some (.int l3), some (.int l4), some (.int l5), some (.int l6)] [] h P := by
  refine sw_iload dX10_far_33 rfl ?_
  refine sw_aload_n dX10_far_35 rfl ?_
  refine sw_cV (M := m_X10_far) dX10_far_36 lv_X10_66 hm3 hr3 rfl (by decide) rfl rfl rfl (Nat.le_of_ble_eq_true rfl) (fun _ _ => rfl) rfl ?_
  show SW sc m_X10_far _ _ _ 39 [some (.ref r0), none, some (.int l2), some (.int l3), some (.int l4), some (.int l5), some (.int l6)] [.int v3, .int l6] g3 P
  exact sw_icmp_ge dX10_far_39 (by decide) (fun q => (sw_fg [false, false, false, true, false, false, true] rfl (kt q))) (fun q => (kf q))
theorem b_X10_far_42 {r0 : Nat} {l2 : Int32} {l3 : Int32} {l4 : Int32} {l5 : Int32} {l6 : Int32} {v3 : Int32} {g3 : ab_H} (hm3 : MSE m_X10_has d [.int l3, .int l6] h (some (.int v3)) g3) (kt : v3 = 0 → SW sc m_X10_far (d + 1) rc rs 62 [some (.ref r0), none, some (.int l2), some (.int l3), some (.int l4), some (.int l5), some (.int l6)] [] g3 P) (kf : ¬ (v3 = 0) → SW sc m_X10_far (d + 1) rc rs 51 [some (.ref r0), none, some (.int l2), some (.int l3), some (.int l4), some (.int l5), some (.int l6)] [] g3 P) : SW sc m_X10_far (d + 1) rc rs 42 [some (.ref r0), none, some (.int l2), some (.int l3), some (.int l4), some (.int l5), some (.int l6)] [] h P := by
  refine sw_iload_n dX10_far_42 rfl ?_
  refine sw_iload dX10_far_43 rfl ?_
  refine sw_cS (M := m_X10_far) dX10_far_45 ls_X10_70 hm3 rfl rfl (Nat.le_of_ble_eq_true rfl) (fun _ _ => rfl) rfl ?_
  show SW sc m_X10_far _ _ _ 48 [some (.ref r0), none, some (.int l2), some (.int l3), some (.int l4), some (.int l5), some (.int l6)] [.int v3] g3 P
  exact sw_if_eq dX10_far_48 (by decide) (fun q => (kt q)) (fun q => (kf q))
theorem b_X10_far_51 {r0 : Nat} {l2 : Int32} {l3 : Int32} {l4 : Int32} {l5 : Int32} {l6 : Int32} {v4 : Int32} {g4 : ab_H} {fs4 : List Value} (hr4 : (h)[r0]? = some (10, fs4)) (hm4 : MSE m_X10_at d [.ref r0, .int l6] h (some (.int v4)) g4) (k : SW sc m_X10_far (d + 1) rc rs 62 [some (.ref r0), none, some (.int l2), some (.int l3), some (.int l4), some (.int (l5 ||| v4)), some (.int l6)] [] g4 P) : SW sc m_X10_far (d + 1) rc rs 51 [some (.ref r0), none, some (.int l2), some (.int l3), some (.int l4), some (.int l5), some (.int l6)] [] h P := by
  refine sw_iload dX10_far_51 rfl ?_
  refine sw_aload_n dX10_far_53 rfl ?_
  refine sw_iload dX10_far_54 rfl ?_
  refine sw_cV (M := m_X10_far) dX10_far_56 lv_X10_74 hm4 hr4 rfl (by decide) rfl rfl rfl (Nat.le_of_ble_eq_true rfl) (fun _ _ => rfl) rfl ?_
  show SW sc m_X10_far _ _ _ 59 [some (.ref r0), none, some (.int l2), some (.int l3), some (.int l4), some (.int l5), some (.int l6)] [.int v4, .int l5] g4 P
  refine sw_ior dX10_far_59 ?_
  refine sw_istore dX10_far_60 (by decide) rfl ?_
  show SW sc m_X10_far _ _ _ 62 [some (.ref r0), none, some (.int l2), some (.int l3), some (.int l4), some (.int (l5 ||| v4)), some (.int l6)] [] g4 P
  exact (k)
theorem b_X10_far_62 {r0 : Nat} {l2 : Int32} {l3 : Int32} {l4 : Int32} {l5 : Int32} {l6 : Int32} (k : SW sc m_X10_far d rc rs 33 [some (.ref r0), none, some (.int l2), some (.int l3), some (.int l4), some (.int l5), some (.int (l6 + 1))] [] h P) : SW sc m_X10_far d rc rs 62 [some (.ref r0), none, some (.int l2), some (.int l3), some (.int l4), some (.int l5), some (.int l6)] [] h P := by
  refine sw_iinc (v := l6 + 1) dX10_far_62 rfl rfl (by decide) rfl ?_
  show SW sc m_X10_far _ _ _ 65 [some (.ref r0), none, some (.int l2), some (.int l3), some (.int l4), some (.int l5), some (.int (l6 + 1))] [] h P
  exact sw_goto dX10_far_65 (by decide) (k)
theorem b_X10_far_68 {r0 : Nat} {l2 : Int32} {l4 : Int32} {l5 : Int32} (k : SW sc m_X10_far d rc rs 7 [some (.ref r0), none, some (.int l2), some (.int l5), some (.int (l4 + 1)), none, none] [] h P) : SW sc m_X10_far d rc rs 68 [some (.ref r0), none, some (.int l2), none, some (.int l4), some (.int l5), none] [] h P := by
  refine sw_iload dX10_far_68 rfl ?_
  refine sw_istore_n dX10_far_70 (by decide) rfl ?_
  show SW sc m_X10_far _ _ _ 71 [some (.ref r0), none, some (.int l2), some (.int l5), some (.int l4), some (.int l5), none] [] h P
  refine sw_iinc (v := l4 + 1) dX10_far_71 rfl rfl (by decide) rfl ?_
  show SW sc m_X10_far _ _ _ 74 [some (.ref r0), none, some (.int l2), some (.int l5), some (.int (l4 + 1)), some (.int l5), none] [] h P
  exact sw_goto dX10_far_74 (by decide) (sw_fg [false, false, false, false, false, true, false] rfl (k))
theorem b_X10_far_77  (hP : P (.inl (some (.int (-1)))) h) : SW sc m_X10_far d rc rs 77 [none, none, none, none, none, none, none] [] h P := by
  refine sw_iconst (v := (-1)) dX10_far_77 (by decide) ?_
  exact sw_ret (v := (some (.int (-1)))) dX10_far_78 rt_i hP
theorem b_X10_eccentricity_0 {r0 : Nat} {l1 : Int32} {v5 : Int32} {g5 : ab_H} {fs5 : List Value} (hr5 : (h)[r0]? = some (10, fs5)) (hm5 : MSE m_X10_component d [.ref r0, .int l1] h (some (.int v5)) g5) (k : SW sc m_X10_eccentricity (d + 1) rc rs 11 [some (.ref r0), some (.int l1), some (.int 0), some (.int v5), some (.int 0)] [] g5 P) : SW sc m_X10_eccentricity (d + 1) rc rs 0 [some (.ref r0), some (.int l1), none, none, none] [] h P := by
  refine sw_iconst (v := 0) dX10_eccentricity_0 (by decide) ?_
  refine sw_istore_n dX10_eccentricity_1 (by decide) rfl ?_
  show SW sc m_X10_eccentricity _ _ _ 2 [some (.ref r0), some (.int l1), some (.int 0), none, none] [] h P
  refine sw_aload_n dX10_eccentricity_2 rfl ?_
  refine sw_iload_n dX10_eccentricity_3 rfl ?_
  refine sw_cV (M := m_X10_eccentricity) dX10_eccentricity_4 lv_X10_84 hm5 hr5 rfl (by decide) rfl rfl rfl (Nat.le_of_ble_eq_true rfl) (fun _ _ => rfl) rfl ?_
  show SW sc m_X10_eccentricity _ _ _ 7 [some (.ref r0), some (.int l1), some (.int 0), none, none] [.int v5] g5 P
  refine sw_istore_n dX10_eccentricity_7 (by decide) rfl ?_
  show SW sc m_X10_eccentricity _ _ _ 8 [some (.ref r0), some (.int l1), some (.int 0), some (.int v5), none] [] g5 P
  refine sw_iconst (v := 0) dX10_eccentricity_8 (by decide) ?_
  refine sw_istore dX10_eccentricity_9 (by decide) rfl ?_
  show SW sc m_X10_eccentricity _ _ _ 11 [some (.ref r0), some (.int l1), some (.int 0), some (.int v5), some (.int 0)] [] g5 P
  exact (k)
theorem b_X10_eccentricity_11 {r0 : Nat} {l1 : Int32} {l2 : Int32} {l3 : Int32} {l4 : Int32} {v3 : Int32} {g3 : ab_H} {fs3 : List Value} (hr3 : (h)[r0]? = some (10, fs3)) (hm3 : MSE m_X10_many d [.ref r0] h (some (.int v3)) g3) (kt : v3 ≤ l4 → SW sc m_X10_eccentricity (d + 1) rc rs 47 [none, none, some (.int l2), none, none] [] g3 P) (kf : ¬ (v3 ≤ l4) → SW sc m_X10_eccentricity (d + 1) rc rs 20 [some (.ref r0), some (.int l1), some (.int l2), some (.int l3), some (.int l4)] [] g3 P) : SW sc m_X10_eccentricity (d + 1) rc rs 11 [some (.ref r0), some (.int l1), some (.int l2), some (.int l3), some (.int l4)] [] h P := by
  refine sw_iload dX10_eccentricity_11 rfl ?_
  refine sw_aload_n dX10_eccentricity_13 rfl ?_
  refine sw_cV (M := m_X10_eccentricity) dX10_eccentricity_14 lv_X10_66 hm3 hr3 rfl (by decide) rfl rfl rfl (Nat.le_of_ble_eq_true rfl) (fun _ _ => rfl) rfl ?_
  show SW sc m_X10_eccentricity _ _ _ 17 [some (.ref r0), some (.int l1), some (.int l2), some (.int l3), some (.int l4)] [.int v3, .int l4] g3 P
  exact sw_icmp_ge dX10_eccentricity_17 (by decide) (fun q => (sw_fg [true, true, false, true, true] rfl (kt q))) (fun q => (kf q))
theorem b_X10_eccentricity_20 {r0 : Nat} {l1 : Int32} {l2 : Int32} {l3 : Int32} {l4 : Int32} {v3 : Int32} {g3 : ab_H} (hm3 : MSE m_X10_has d [.int l3, .int l4] h (some (.int v3)) g3) (kt : v3 = 0 → SW sc m_X10_eccentricity (d + 1) rc rs 41 [some (.ref r0), some (.int l1), some (.int l2), some (.int l3), some (.int l4)] [] g3 P) (kf : ¬ (v3 = 0) → SW sc m_X10_eccentricity (d + 1) rc rs 29 [some (.ref r0), some (.int l1), some (.int l2), some (.int l3), some (.int l4)] [] g3 P) : SW sc m_X10_eccentricity (d + 1) rc rs 20 [some (.ref r0), some (.int l1), some (.int l2), some (.int l3), some (.int l4)] [] h P := by
  refine sw_iload_n dX10_eccentricity_20 rfl ?_
  refine sw_iload dX10_eccentricity_21 rfl ?_
  refine sw_cS (M := m_X10_eccentricity) dX10_eccentricity_23 ls_X10_70 hm3 rfl rfl (Nat.le_of_ble_eq_true rfl) (fun _ _ => rfl) rfl ?_
  show SW sc m_X10_eccentricity _ _ _ 26 [some (.ref r0), some (.int l1), some (.int l2), some (.int l3), some (.int l4)] [.int v3] g3 P
  exact sw_if_eq dX10_eccentricity_26 (by decide) (fun q => (kt q)) (fun q => (kf q))
theorem b_X10_eccentricity_29 {r0 : Nat} {l1 : Int32} {l2 : Int32} {l3 : Int32} {l4 : Int32} {v5 : Int32} {g5 : ab_H} {fs5 : List Value} {v6 : Int32} {g6 : ab_H} (hr5 : (h)[r0]? = some (10, fs5)) (hm5 : MSE m_X10_far d [.ref r0, .int l1, .int l4] h (some (.int v5)) g5) (hm6 : MSE m_J9_max_7cf53 d [.int l2, .int v5] g5 (some (.int v6)) g6) (k : SW sc m_X10_eccentricity (d + 1) rc rs 41 [some (.ref r0), some (.int l1), some (.int v6), some (.int l3), some (.int l4)] [] g6 P) : SW sc m_X10_eccentricity (d + 1) rc rs 29 [some (.ref r0), some (.int l1), some (.int l2), some (.int l3), some (.int l4)] [] h P := by
  refine sw_iload_n dX10_eccentricity_29 rfl ?_
  refine sw_aload_n dX10_eccentricity_30 rfl ?_
  refine sw_iload_n dX10_eccentricity_31 rfl ?_
  refine sw_iload dX10_eccentricity_32 rfl ?_
  refine sw_cV (M := m_X10_eccentricity) dX10_eccentricity_34 lv_X10_90 hm5 hr5 rfl (by decide) rfl rfl rfl (Nat.le_of_ble_eq_true rfl) (fun _ _ => rfl) rfl ?_
  show SW sc m_X10_eccentricity _ _ _ 37 [some (.ref r0), some (.int l1), some (.int l2), some (.int l3), some (.int l4)] [.int v5, .int l2] g5 P
  refine sw_cS (M := m_X10_eccentricity) dX10_eccentricity_37 ls_X10_93 hm6 rfl rfl (Nat.le_of_ble_eq_true rfl) (fun _ _ => rfl) rfl ?_
  show SW sc m_X10_eccentricity _ _ _ 40 [some (.ref r0), some (.int l1), some (.int l2), some (.int l3), some (.int l4)] [.int v6] g6 P
  refine sw_istore_n dX10_eccentricity_40 (by decide) rfl ?_
  show SW sc m_X10_eccentricity _ _ _ 41 [some (.ref r0), some (.int l1), some (.int v6), some (.int l3), some (.int l4)] [] g6 P
  exact (k)
theorem b_X10_eccentricity_41 {r0 : Nat} {l1 : Int32} {l2 : Int32} {l3 : Int32} {l4 : Int32} (k : SW sc m_X10_eccentricity d rc rs 11 [some (.ref r0), some (.int l1), some (.int l2), some (.int l3), some (.int (l4 + 1))] [] h P) : SW sc m_X10_eccentricity d rc rs 41 [some (.ref r0), some (.int l1), some (.int l2), some (.int l3), some (.int l4)] [] h P := by
  refine sw_iinc (v := l4 + 1) dX10_eccentricity_41 rfl rfl (by decide) rfl ?_
  show SW sc m_X10_eccentricity _ _ _ 44 [some (.ref r0), some (.int l1), some (.int l2), some (.int l3), some (.int (l4 + 1))] [] h P
  exact sw_goto dX10_eccentricity_44 (by decide) (k)
theorem b_X10_eccentricity_47 {l2 : Int32} (hP : P (.inl (some (.int l2))) h) : SW sc m_X10_eccentricity d rc rs 47 [none, none, some (.int l2), none, none] [] h P := by
  refine sw_iload_n dX10_eccentricity_47 rfl ?_
  exact sw_ret (v := (some (.int l2))) dX10_eccentricity_48 rt_i hP
theorem b_X10_weightOf_0 {r0 : Nat} {l1 : Int32} {l2 : Int32} (k : SW sc m_X10_weightOf d rc rs 5 [some (.ref r0), some (.int l1), some (.int l2), some (.int 0), some (.int 0)] [] h P) : SW sc m_X10_weightOf d rc rs 0 [some (.ref r0), some (.int l1), some (.int l2), none, none] [] h P := by
  refine sw_iconst (v := 0) dX10_weightOf_0 (by decide) ?_
  refine sw_istore_n dX10_weightOf_1 (by decide) rfl ?_
  show SW sc m_X10_weightOf _ _ _ 2 [some (.ref r0), some (.int l1), some (.int l2), some (.int 0), none] [] h P
  refine sw_iconst (v := 0) dX10_weightOf_2 (by decide) ?_
  refine sw_istore dX10_weightOf_3 (by decide) rfl ?_
  show SW sc m_X10_weightOf _ _ _ 5 [some (.ref r0), some (.int l1), some (.int l2), some (.int 0), some (.int 0)] [] h P
  exact (k)
theorem b_X10_weightOf_5 {r0 : Nat} {l1 : Int32} {l2 : Int32} {l3 : Int32} {l4 : Int32} {v3 : Int32} {g3 : ab_H} {fs3 : List Value} (hr3 : (h)[r0]? = some (10, fs3)) (hm3 : MSE m_X10_many d [.ref r0] h (some (.int v3)) g3) (kt : v3 ≤ l4 → SW sc m_X10_weightOf (d + 1) rc rs 50 [none, none, none, some (.int l3), none] [] g3 P) (kf : ¬ (v3 ≤ l4) → SW sc m_X10_weightOf (d + 1) rc rs 14 [some (.ref r0), some (.int l1), some (.int l2), some (.int l3), some (.int l4)] [] g3 P) : SW sc m_X10_weightOf (d + 1) rc rs 5 [some (.ref r0), some (.int l1), some (.int l2), some (.int l3), some (.int l4)] [] h P := by
  refine sw_iload dX10_weightOf_5 rfl ?_
  refine sw_aload_n dX10_weightOf_7 rfl ?_
  refine sw_cV (M := m_X10_weightOf) dX10_weightOf_8 lv_X10_66 hm3 hr3 rfl (by decide) rfl rfl rfl (Nat.le_of_ble_eq_true rfl) (fun _ _ => rfl) rfl ?_
  show SW sc m_X10_weightOf _ _ _ 11 [some (.ref r0), some (.int l1), some (.int l2), some (.int l3), some (.int l4)] [.int v3, .int l4] g3 P
  exact sw_icmp_ge dX10_weightOf_11 (by decide) (fun q => (sw_fg [true, true, true, false, true] rfl (kt q))) (fun q => (kf q))
theorem b_X10_weightOf_14 {r0 : Nat} {l1 : Int32} {l2 : Int32} {l3 : Int32} {l4 : Int32} {v3 : Int32} {g3 : ab_H} (hm3 : MSE m_X10_has d [.int l1, .int l4] h (some (.int v3)) g3) (kt : v3 = 0 → SW sc m_X10_weightOf (d + 1) rc rs 44 [some (.ref r0), some (.int l1), some (.int l2), some (.int l3), some (.int l4)] [] g3 P) (kf : ¬ (v3 = 0) → SW sc m_X10_weightOf (d + 1) rc rs 23 [some (.ref r0), some (.int l1), some (.int l2), some (.int l3), some (.int l4)] [] g3 P) : SW sc m_X10_weightOf (d + 1) rc rs 14 [some (.ref r0), some (.int l1), some (.int l2), some (.int l3), some (.int l4)] [] h P := by
  refine sw_iload_n dX10_weightOf_14 rfl ?_
  refine sw_iload dX10_weightOf_15 rfl ?_
  refine sw_cS (M := m_X10_weightOf) dX10_weightOf_17 ls_X10_70 hm3 rfl rfl (Nat.le_of_ble_eq_true rfl) (fun _ _ => rfl) rfl ?_
  show SW sc m_X10_weightOf _ _ _ 20 [some (.ref r0), some (.int l1), some (.int l2), some (.int l3), some (.int l4)] [.int v3] g3 P
  exact sw_if_eq dX10_weightOf_20 (by decide) (fun q => (kt q)) (fun q => (kf q))
theorem b_X10_weightOf_23 {r0 : Nat} {l1 : Int32} {l2 : Int32} {l3 : Int32} {l4 : Int32} (kt : l2 = 0 → SW sc m_X10_weightOf d rc rs 41 [some (.ref r0), some (.int l1), some (.int l2), none, some (.int l4)] [.int l3] h P) (kf : ¬ (l2 = 0) → SW sc m_X10_weightOf d rc rs 28 [some (.ref r0), some (.int l1), some (.int l2), none, some (.int l4)] [.int l3] h P) : SW sc m_X10_weightOf d rc rs 23 [some (.ref r0), some (.int l1), some (.int l2), some (.int l3), some (.int l4)] [] h P := by
  refine sw_iload_n dX10_weightOf_23 rfl ?_
  refine sw_iload_n dX10_weightOf_24 rfl ?_
  exact sw_if_eq dX10_weightOf_25 (by decide) (fun q => (sw_fg [false, false, false, true, false] rfl (kt q))) (fun q => (sw_fg [false, false, false, true, false] rfl (kf q)))
theorem b_X10_weightOf_28 {r0 : Nat} {l1 : Int32} {l2 : Int32} {l4 : Int32} {s0 : Int32} {fs2 : List Value} {a2 : Nat} {vs6 : List Value} {x6 : Int32} (hc2 : (h)[r0]? = some (10, fs2)) (hv2 : fs2[1]? = some (.ref a2)) (hc6 : (h)[a2]? = some (100, vs6)) (ho6 : ¬ (10 + l4) < 0) (hi6 : vs6[(10 + l4).toNatClampNeg]? = some (.int x6)) (k : SW sc m_X10_weightOf d rc rs 42 [some (.ref r0), some (.int l1), some (.int l2), none, some (.int l4)] [.int x6, .int s0] h P) : SW sc m_X10_weightOf d rc rs 28 [some (.ref r0), some (.int l1), some (.int l2), none, some (.int l4)] [.int s0] h P := by
  refine sw_aload_n dX10_weightOf_28 rfl ?_
  refine sw_getf dX10_weightOf_29 lf_X10_19 hc2 hv2 ?_
  refine sw_bipush (v := 10) dX10_weightOf_32 (by decide) ?_
  refine sw_iload dX10_weightOf_34 rfl ?_
  refine sw_iadd dX10_weightOf_36 ?_
  refine sw_iald dX10_weightOf_37 hc6 ho6 hi6 ?_
  exact sw_goto dX10_weightOf_38 (by decide) (k)
theorem b_X10_weightOf_41 {r0 : Nat} {l1 : Int32} {l2 : Int32} {l4 : Int32} {s0 : Int32} (k : SW sc m_X10_weightOf d rc rs 42 [some (.ref r0), some (.int l1), some (.int l2), none, some (.int l4)] [.int 1, .int s0] h P) : SW sc m_X10_weightOf d rc rs 41 [some (.ref r0), some (.int l1), some (.int l2), none, some (.int l4)] [.int s0] h P := by
  refine sw_iconst (v := 1) dX10_weightOf_41 (by decide) ?_
  exact (k)
theorem b_X10_weightOf_42 {r0 : Nat} {l1 : Int32} {l2 : Int32} {l4 : Int32} {s0 : Int32} {s1 : Int32} (k : SW sc m_X10_weightOf d rc rs 44 [some (.ref r0), some (.int l1), some (.int l2), some (.int (s0 + s1)), some (.int l4)] [] h P) : SW sc m_X10_weightOf d rc rs 42 [some (.ref r0), some (.int l1), some (.int l2), none, some (.int l4)] [.int s1, .int s0] h P := by
  refine sw_iadd dX10_weightOf_42 ?_
  refine sw_istore_n dX10_weightOf_43 (by decide) rfl ?_
  show SW sc m_X10_weightOf _ _ _ 44 [some (.ref r0), some (.int l1), some (.int l2), some (.int (s0 + s1)), some (.int l4)] [] h P
  exact (k)
theorem b_X10_weightOf_44 {r0 : Nat} {l1 : Int32} {l2 : Int32} {l3 : Int32} {l4 : Int32} (k : SW sc m_X10_weightOf d rc rs 5 [some (.ref r0), some (.int l1), some (.int l2), some (.int l3), some (.int (l4 + 1))] [] h P) : SW sc m_X10_weightOf d rc rs 44 [some (.ref r0), some (.int l1), some (.int l2), some (.int l3), some (.int l4)] [] h P := by
  refine sw_iinc (v := l4 + 1) dX10_weightOf_44 rfl rfl (by decide) rfl ?_
  show SW sc m_X10_weightOf _ _ _ 47 [some (.ref r0), some (.int l1), some (.int l2), some (.int l3), some (.int (l4 + 1))] [] h P
  exact sw_goto dX10_weightOf_47 (by decide) (k)
theorem b_X10_weightOf_50 {l3 : Int32} (hP : P (.inl (some (.int l3))) h) : SW sc m_X10_weightOf d rc rs 50 [none, none, none, some (.int l3), none] [] h P := by
  refine sw_iload_n dX10_weightOf_50 rfl ?_
  exact sw_ret (v := (some (.int l3))) dX10_weightOf_51 rt_i hP
theorem b_X10_greatestPart_0 {r0 : Nat} {l1 : Int32} {l2 : Int32} (k : SW sc m_X10_greatestPart d rc rs 5 [some (.ref r0), some (.int l1), some (.int l2), some (.int 0), some (.int 0)] [] h P) : SW sc m_X10_greatestPart d rc rs 0 [some (.ref r0), some (.int l1), some (.int l2), none, none] [] h P := by
  refine sw_iconst (v := 0) dX10_greatestPart_0 (by decide) ?_
  refine sw_istore_n dX10_greatestPart_1 (by decide) rfl ?_
  show SW sc m_X10_greatestPart _ _ _ 2 [some (.ref r0), some (.int l1), some (.int l2), some (.int 0), none] [] h P
  refine sw_iconst (v := 0) dX10_greatestPart_2 (by decide) ?_
  refine sw_istore dX10_greatestPart_3 (by decide) rfl ?_
  show SW sc m_X10_greatestPart _ _ _ 5 [some (.ref r0), some (.int l1), some (.int l2), some (.int 0), some (.int 0)] [] h P
  exact (k)
theorem b_X10_greatestPart_5 {r0 : Nat} {l1 : Int32} {l2 : Int32} {l3 : Int32} {l4 : Int32} {v3 : Int32} {g3 : ab_H} {fs3 : List Value} (hr3 : (h)[r0]? = some (10, fs3)) (hm3 : MSE m_X10_many d [.ref r0] h (some (.int v3)) g3) (kt : v3 ≤ l4 → SW sc m_X10_greatestPart (d + 1) rc rs 50 [none, none, none, some (.int l3), none] [] g3 P) (kf : ¬ (v3 ≤ l4) → SW sc m_X10_greatestPart (d + 1) rc rs 14 [some (.ref r0), some (.int l1), some (.int l2), some (.int l3), some (.int l4)] [] g3 P) : SW sc m_X10_greatestPart (d + 1) rc rs 5 [some (.ref r0), some (.int l1), some (.int l2), some (.int l3), some (.int l4)] [] h P := by
  refine sw_iload dX10_greatestPart_5 rfl ?_
  refine sw_aload_n dX10_greatestPart_7 rfl ?_
  refine sw_cV (M := m_X10_greatestPart) dX10_greatestPart_8 lv_X10_66 hm3 hr3 rfl (by decide) rfl rfl rfl (Nat.le_of_ble_eq_true rfl) (fun _ _ => rfl) rfl ?_
  show SW sc m_X10_greatestPart _ _ _ 11 [some (.ref r0), some (.int l1), some (.int l2), some (.int l3), some (.int l4)] [.int v3, .int l4] g3 P
  exact sw_icmp_ge dX10_greatestPart_11 (by decide) (fun q => (sw_fg [true, true, true, false, true] rfl (kt q))) (fun q => (kf q))
theorem b_X10_greatestPart_14 {r0 : Nat} {l1 : Int32} {l2 : Int32} {l3 : Int32} {l4 : Int32} {v3 : Int32} {g3 : ab_H} {fs3 : List Value} {v5 : Int32} {g5 : ab_H} (hr3 : (h)[r0]? = some (10, fs3)) (hm3 : MSE m_X10_at d [.ref r0, .int l1] h (some (.int v3)) g3) (hm5 : MSE m_X10_has d [.int v3, .int l4] g3 (some (.int v5)) g5) (kt : v5 = 0 → SW sc m_X10_greatestPart (d + 1) rc rs 44 [some (.ref r0), some (.int l1), some (.int l2), some (.int l3), some (.int l4)] [] g5 P) (kf : ¬ (v5 = 0) → SW sc m_X10_greatestPart (d + 1) rc rs 27 [some (.ref r0), some (.int l1), some (.int l2), some (.int l3), some (.int l4)] [] g5 P) : SW sc m_X10_greatestPart (d + 1) rc rs 14 [some (.ref r0), some (.int l1), some (.int l2), some (.int l3), some (.int l4)] [] h P := by
  refine sw_aload_n dX10_greatestPart_14 rfl ?_
  refine sw_iload_n dX10_greatestPart_15 rfl ?_
  refine sw_cV (M := m_X10_greatestPart) dX10_greatestPart_16 lv_X10_74 hm3 hr3 rfl (by decide) rfl rfl rfl (Nat.le_of_ble_eq_true rfl) (fun _ _ => rfl) rfl ?_
  show SW sc m_X10_greatestPart _ _ _ 19 [some (.ref r0), some (.int l1), some (.int l2), some (.int l3), some (.int l4)] [.int v3] g3 P
  refine sw_iload dX10_greatestPart_19 rfl ?_
  refine sw_cS (M := m_X10_greatestPart) dX10_greatestPart_21 ls_X10_70 hm5 rfl rfl (Nat.le_of_ble_eq_true rfl) (fun _ _ => rfl) rfl ?_
  show SW sc m_X10_greatestPart _ _ _ 24 [some (.ref r0), some (.int l1), some (.int l2), some (.int l3), some (.int l4)] [.int v5] g5 P
  exact sw_if_eq dX10_greatestPart_24 (by decide) (fun q => (kt q)) (fun q => (kf q))
theorem b_X10_greatestPart_27 {r0 : Nat} {l1 : Int32} {l2 : Int32} {l3 : Int32} {l4 : Int32} {v6 : Int32} {g6 : ab_H} {fs6 : List Value} {v8 : Int32} {g8 : ab_H} {fs8 : List Value} {v9 : Int32} {g9 : ab_H} (hr6 : (h)[r0]? = some (10, fs6)) (hm6 : MSE m_X10_reach d [.ref r0, .int l4, .int l1] h (some (.int v6)) g6) (hr8 : (g6)[r0]? = some (10, fs8)) (hm8 : MSE m_X10_weightOf d [.ref r0, .int v6, .int l2] g6 (some (.int v8)) g8) (hm9 : MSE m_J9_max_7cf53 d [.int l3, .int v8] g8 (some (.int v9)) g9) (k : SW sc m_X10_greatestPart (d + 1) rc rs 44 [some (.ref r0), some (.int l1), some (.int l2), some (.int v9), some (.int l4)] [] g9 P) : SW sc m_X10_greatestPart (d + 1) rc rs 27 [some (.ref r0), some (.int l1), some (.int l2), some (.int l3), some (.int l4)] [] h P := by
  refine sw_iload_n dX10_greatestPart_27 rfl ?_
  refine sw_aload_n dX10_greatestPart_28 rfl ?_
  refine sw_aload_n dX10_greatestPart_29 rfl ?_
  refine sw_iload dX10_greatestPart_30 rfl ?_
  refine sw_iload_n dX10_greatestPart_32 rfl ?_
  refine sw_cV (M := m_X10_greatestPart) dX10_greatestPart_33 lv_X10_77 hm6 hr6 rfl (by decide) rfl rfl rfl (Nat.le_of_ble_eq_true rfl) (fun _ _ => rfl) rfl ?_
  show SW sc m_X10_greatestPart _ _ _ 36 [some (.ref r0), some (.int l1), some (.int l2), some (.int l3), some (.int l4)] [.int v6, .ref r0, .int l3] g6 P
  refine sw_iload_n dX10_greatestPart_36 rfl ?_
  refine sw_cV (M := m_X10_greatestPart) dX10_greatestPart_37 lv_X10_98 hm8 hr8 rfl (by decide) rfl rfl rfl (Nat.le_of_ble_eq_true rfl) (fun _ _ => rfl) rfl ?_
  show SW sc m_X10_greatestPart _ _ _ 40 [some (.ref r0), some (.int l1), some (.int l2), some (.int l3), some (.int l4)] [.int v8, .int l3] g8 P
  refine sw_cS (M := m_X10_greatestPart) dX10_greatestPart_40 ls_X10_93 hm9 rfl rfl (Nat.le_of_ble_eq_true rfl) (fun _ _ => rfl) rfl ?_
  show SW sc m_X10_greatestPart _ _ _ 43 [some (.ref r0), some (.int l1), some (.int l2), some (.int l3), some (.int l4)] [.int v9] g9 P
  refine sw_istore_n dX10_greatestPart_43 (by decide) rfl ?_
  show SW sc m_X10_greatestPart _ _ _ 44 [some (.ref r0), some (.int l1), some (.int l2), some (.int v9), some (.int l4)] [] g9 P
  exact (k)
theorem b_X10_greatestPart_44 {r0 : Nat} {l1 : Int32} {l2 : Int32} {l3 : Int32} {l4 : Int32} (k : SW sc m_X10_greatestPart d rc rs 5 [some (.ref r0), some (.int l1), some (.int l2), some (.int l3), some (.int (l4 + 1))] [] h P) : SW sc m_X10_greatestPart d rc rs 44 [some (.ref r0), some (.int l1), some (.int l2), some (.int l3), some (.int l4)] [] h P := by
  refine sw_iinc (v := l4 + 1) dX10_greatestPart_44 rfl rfl (by decide) rfl ?_
  show SW sc m_X10_greatestPart _ _ _ 47 [some (.ref r0), some (.int l1), some (.int l2), some (.int l3), some (.int (l4 + 1))] [] h P
  exact sw_goto dX10_greatestPart_47 (by decide) (k)
theorem b_X10_greatestPart_50 {l3 : Int32} (hP : P (.inl (some (.int l3))) h) : SW sc m_X10_greatestPart d rc rs 50 [none, none, none, some (.int l3), none] [] h P := by
  refine sw_iload_n dX10_greatestPart_50 rfl ?_
  exact sw_ret (v := (some (.int l3))) dX10_greatestPart_51 rt_i hP
theorem b_X10_measure_0 {r0 : Nat} {l1 : Int32} {l2 : Int32} (kt : ¬ l2 = 0 → SW sc m_X10_measure d rc rs 12 [some (.ref r0), some (.int l1), some (.int l2)] [] h P) (kf : l2 = 0 → SW sc m_X10_measure d rc rs 4 [some (.ref r0), some (.int l1), none] [] h P) : SW sc m_X10_measure d rc rs 0 [some (.ref r0), some (.int l1), some (.int l2)] [] h P := by
  refine sw_iload_n dX10_measure_0 rfl ?_
  exact sw_if_ne dX10_measure_1 (by decide) (fun q => (kt q)) (fun q => (sw_fg [false, false, true] rfl (kf q)))
theorem b_X10_measure_4 {r0 : Nat} {l1 : Int32} {v3 : Int32} {g3 : ab_H} {fs3 : List Value} (hr3 : (h)[r0]? = some (10, fs3)) (hm3 : MSE m_X10_eccentricity d [.ref r0, .int l1] h (some (.int v3)) g3) (k : SW sc m_X10_measure (d + 1) rc rs 27 [none, none, none] [.int v3] g3 P) : SW sc m_X10_measure (d + 1) rc rs 4 [some (.ref r0), some (.int l1), none] [] h P := by
  refine sw_aload_n dX10_measure_4 rfl ?_
  refine sw_iload_n dX10_measure_5 rfl ?_
  refine sw_cV (M := m_X10_measure) dX10_measure_6 lv_X10_102 hm3 hr3 rfl (by decide) rfl rfl rfl (Nat.le_of_ble_eq_true rfl) (fun _ _ => rfl) rfl ?_
  show SW sc m_X10_measure _ _ _ 9 [some (.ref r0), some (.int l1), none] [.int v3] g3 P
  exact sw_goto dX10_measure_9 (by decide) (sw_fg [true, true, false] rfl (k))
theorem b_X10_measure_12 {r0 : Nat} {l1 : Int32} {l2 : Int32} (kt : ¬ l2 = 2 → SW sc m_X10_measure d rc rs 23 [none, none, none] [.int l1, .ref r0] h P) (kf : l2 = 2 → SW sc m_X10_measure d rc rs 19 [none, none, none] [.int l1, .ref r0] h P) : SW sc m_X10_measure d rc rs 12 [some (.ref r0), some (.int l1), some (.int l2)] [] h P := by
  refine sw_aload_n dX10_measure_12 rfl ?_
  refine sw_iload_n dX10_measure_13 rfl ?_
  refine sw_iload_n dX10_measure_14 rfl ?_
  refine sw_iconst (v := 2) dX10_measure_15 (by decide) ?_
  exact sw_icmp_ne dX10_measure_16 (by decide) (fun q => (sw_fg [true, true, true] rfl (kt q))) (fun q => (sw_fg [true, true, true] rfl (kf q)))
theorem b_X10_measure_19 {q0 : Nat} {s1 : Int32} (k : SW sc m_X10_measure d rc rs 24 [none, none, none] [.int 1, .int s1, .ref q0] h P) : SW sc m_X10_measure d rc rs 19 [none, none, none] [.int s1, .ref q0] h P := by
  refine sw_iconst (v := 1) dX10_measure_19 (by decide) ?_
  exact sw_goto dX10_measure_20 (by decide) (k)
theorem b_X10_measure_23 {q0 : Nat} {s1 : Int32} (k : SW sc m_X10_measure d rc rs 24 [none, none, none] [.int 0, .int s1, .ref q0] h P) : SW sc m_X10_measure d rc rs 23 [none, none, none] [.int s1, .ref q0] h P := by
  refine sw_iconst (v := 0) dX10_measure_23 (by decide) ?_
  exact (k)
theorem b_X10_measure_24 {q0 : Nat} {s1 : Int32} {s2 : Int32} {v1 : Int32} {g1 : ab_H} {fs1 : List Value} (hr1 : (h)[q0]? = some (10, fs1)) (hm1 : MSE m_X10_greatestPart d [.ref q0, .int s1, .int s2] h (some (.int v1)) g1) (k : SW sc m_X10_measure (d + 1) rc rs 27 [none, none, none] [.int v1] g1 P) : SW sc m_X10_measure (d + 1) rc rs 24 [none, none, none] [.int s2, .int s1, .ref q0] h P := by
  refine sw_cV (M := m_X10_measure) dX10_measure_24 lv_X10_105 hm1 hr1 rfl (by decide) rfl rfl rfl (Nat.le_of_ble_eq_true rfl) (fun _ _ => rfl) rfl ?_
  show SW sc m_X10_measure _ _ _ 27 [none, none, none] [.int v1] g1 P
  exact (k)
theorem b_X10_measure_27 {s0 : Int32} (hP : P (.inl (some (.int s0))) h) : SW sc m_X10_measure d rc rs 27 [none, none, none] [.int s0] h P := by
  exact sw_ret (v := (some (.int s0))) dX10_measure_27 rt_i hP
theorem b_X10_leastOf_0 {r0 : Nat} {l1 : Int32} {l2 : Int32} (k : SW sc m_X10_leastOf d rc rs 8 [some (.ref r0), some (.int l1), some (.int l2), some (.int 0), some (.int 0), some (.int 0), none] [] h P) : SW sc m_X10_leastOf d rc rs 0 [some (.ref r0), some (.int l1), some (.int l2), none, none, none, none] [] h P := by
  refine sw_iconst (v := 0) dX10_leastOf_0 (by decide) ?_
  refine sw_istore_n dX10_leastOf_1 (by decide) rfl ?_
  show SW sc m_X10_leastOf _ _ _ 2 [some (.ref r0), some (.int l1), some (.int l2), some (.int 0), none, none, none] [] h P
  refine sw_iconst (v := 0) dX10_leastOf_2 (by decide) ?_
  refine sw_istore dX10_leastOf_3 (by decide) rfl ?_
  show SW sc m_X10_leastOf _ _ _ 5 [some (.ref r0), some (.int l1), some (.int l2), some (.int 0), some (.int 0), none, none] [] h P
  refine sw_iconst (v := 0) dX10_leastOf_5 (by decide) ?_
  refine sw_istore dX10_leastOf_6 (by decide) rfl ?_
  show SW sc m_X10_leastOf _ _ _ 8 [some (.ref r0), some (.int l1), some (.int l2), some (.int 0), some (.int 0), some (.int 0), none] [] h P
  exact (k)
theorem b_X10_leastOf_8 {r0 : Nat} {l1 : Int32} {l2 : Int32} {l3 : Int32} {l4 : Int32} {l5 : Int32} {v3 : Int32} {g3 : ab_H} {fs3 : List Value} (hr3 : (h)[r0]? = some (10, fs3)) (hm3 : MSE m_X10_many d [.ref r0] h (some (.int v3)) g3) (kt : v3 ≤ l5 → SW sc m_X10_leastOf (d + 1) rc rs 81 [none, none, none, some (.int l3), none, none, none] [] g3 P) (kf : ¬ (v3 ≤ l5) → SW sc m_X10_leastOf (d + 1) rc rs 17 [some (.ref r0), some (.int l1), some (.int l2), some (.int l3), some (.int l4), some (.int l5), none] [] g3 P) : SW sc m_X10_leastOf (d + 1) rc rs 8 [some (.ref r0), some (.int l1), some (.int l2), some (.int l3), some (.int l4), some (.int l5), none] [] h P := by
  refine sw_iload dX10_leastOf_8 rfl ?_
  refine sw_aload_n dX10_leastOf_10 rfl ?_
  refine sw_cV (M := m_X10_leastOf) dX10_leastOf_11 lv_X10_66 hm3 hr3 rfl (by decide) rfl rfl rfl (Nat.le_of_ble_eq_true rfl) (fun _ _ => rfl) rfl ?_
  show SW sc m_X10_leastOf _ _ _ 14 [some (.ref r0), some (.int l1), some (.int l2), some (.int l3), some (.int l4), some (.int l5), none] [.int v3, .int l5] g3 P
  exact sw_icmp_ge dX10_leastOf_14 (by decide) (fun q => (sw_fg [true, true, true, false, true, true, false] rfl (kt q))) (fun q => (kf q))
theorem b_X10_leastOf_17 {r0 : Nat} {l1 : Int32} {l2 : Int32} {l3 : Int32} {l4 : Int32} {l5 : Int32} {v3 : Int32} {g3 : ab_H} (hm3 : MSE m_X10_has d [.int l1, .int l5] h (some (.int v3)) g3) (kt : ¬ v3 = 0 → SW sc m_X10_leastOf (d + 1) rc rs 29 [some (.ref r0), some (.int l1), some (.int l2), some (.int l3), some (.int l4), some (.int l5), none] [] g3 P) (kf : v3 = 0 → SW sc m_X10_leastOf (d + 1) rc rs 26 [some (.ref r0), some (.int l1), some (.int l2), some (.int l3), some (.int l4), some (.int l5), none] [] g3 P) : SW sc m_X10_leastOf (d + 1) rc rs 17 [some (.ref r0), some (.int l1), some (.int l2), some (.int l3), some (.int l4), some (.int l5), none] [] h P := by
  refine sw_iload_n dX10_leastOf_17 rfl ?_
  refine sw_iload dX10_leastOf_18 rfl ?_
  refine sw_cS (M := m_X10_leastOf) dX10_leastOf_20 ls_X10_70 hm3 rfl rfl (Nat.le_of_ble_eq_true rfl) (fun _ _ => rfl) rfl ?_
  show SW sc m_X10_leastOf _ _ _ 23 [some (.ref r0), some (.int l1), some (.int l2), some (.int l3), some (.int l4), some (.int l5), none] [.int v3] g3 P
  exact sw_if_ne dX10_leastOf_23 (by decide) (fun q => (kt q)) (fun q => (kf q))
theorem b_X10_leastOf_26 {r0 : Nat} {l1 : Int32} {l2 : Int32} {l3 : Int32} {l4 : Int32} {l5 : Int32} (k : SW sc m_X10_leastOf d rc rs 75 [some (.ref r0), some (.int l1), some (.int l2), some (.int l3), some (.int l4), some (.int l5), none] [] h P) : SW sc m_X10_leastOf d rc rs 26 [some (.ref r0), some (.int l1), some (.int l2), some (.int l3), some (.int l4), some (.int l5), none] [] h P := by
  exact sw_goto dX10_leastOf_26 (by decide) (k)
theorem b_X10_leastOf_29 {r0 : Nat} {l1 : Int32} {l2 : Int32} {l3 : Int32} {l4 : Int32} {l5 : Int32} {v4 : Int32} {g4 : ab_H} {fs4 : List Value} (hr4 : (h)[r0]? = some (10, fs4)) (hm4 : MSE m_X10_measure d [.ref r0, .int l5, .int l2] h (some (.int v4)) g4) (kt : l3 = 0 → SW sc m_X10_leastOf (d + 1) rc rs 49 [some (.ref r0), some (.int l1), some (.int l2), none, none, some (.int l5), some (.int v4)] [] g4 P) (kf : ¬ (l3 = 0) → SW sc m_X10_leastOf (d + 1) rc rs 42 [some (.ref r0), some (.int l1), some (.int l2), some (.int l3), some (.int l4), some (.int l5), some (.int v4)] [] g4 P) : SW sc m_X10_leastOf (d + 1) rc rs 29 [some (.ref r0), some (.int l1), some (.int l2), some (.int l3), some (.int l4), some (.int l5), none] [] h P := by
  refine sw_aload_n dX10_leastOf_29 rfl ?_
  refine sw_iload dX10_leastOf_30 rfl ?_
  refine sw_iload_n dX10_leastOf_32 rfl ?_
  refine sw_cV (M := m_X10_leastOf) dX10_leastOf_33 lv_X10_108 hm4 hr4 rfl (by decide) rfl rfl rfl (Nat.le_of_ble_eq_true rfl) (fun _ _ => rfl) rfl ?_
  show SW sc m_X10_leastOf _ _ _ 36 [some (.ref r0), some (.int l1), some (.int l2), some (.int l3), some (.int l4), some (.int l5), none] [.int v4] g4 P
  refine sw_istore dX10_leastOf_36 (by decide) rfl ?_
  show SW sc m_X10_leastOf _ _ _ 38 [some (.ref r0), some (.int l1), some (.int l2), some (.int l3), some (.int l4), some (.int l5), some (.int v4)] [] g4 P
  refine sw_iload_n dX10_leastOf_38 rfl ?_
  exact sw_if_eq dX10_leastOf_39 (by decide) (fun q => (sw_fg [false, false, false, true, true, false, false] rfl (kt q))) (fun q => (kf q))
theorem b_X10_leastOf_42 {r0 : Nat} {l1 : Int32} {l2 : Int32} {l3 : Int32} {l4 : Int32} {l5 : Int32} {l6 : Int32} (kt : l4 ≤ l6 → SW sc m_X10_leastOf d rc rs 61 [some (.ref r0), some (.int l1), some (.int l2), some (.int l3), some (.int l4), some (.int l5), some (.int l6)] [] h P) (kf : ¬ (l4 ≤ l6) → SW sc m_X10_leastOf d rc rs 49 [some (.ref r0), some (.int l1), some (.int l2), none, none, some (.int l5), some (.int l6)] [] h P) : SW sc m_X10_leastOf d rc rs 42 [some (.ref r0), some (.int l1), some (.int l2), some (.int l3), some (.int l4), some (.int l5), some (.int l6)] [] h P := by
  refine sw_iload dX10_leastOf_42 rfl ?_
  refine sw_iload dX10_leastOf_44 rfl ?_
  exact sw_icmp_ge dX10_leastOf_46 (by decide) (fun q => (kt q)) (fun q => (sw_fg [false, false, false, true, true, false, false] rfl (kf q)))
theorem b_X10_leastOf_49 {r0 : Nat} {l1 : Int32} {l2 : Int32} {l5 : Int32} {l6 : Int32} (k : SW sc m_X10_leastOf d rc rs 75 [some (.ref r0), some (.int l1), some (.int l2), some (.int (1 <<< (l5 &&& 31))), some (.int l6), some (.int l5), none] [] h P) : SW sc m_X10_leastOf d rc rs 49 [some (.ref r0), some (.int l1), some (.int l2), none, none, some (.int l5), some (.int l6)] [] h P := by
  refine sw_iconst (v := 1) dX10_leastOf_49 (by decide) ?_
  refine sw_iload dX10_leastOf_50 rfl ?_
  refine sw_ishl dX10_leastOf_52 ?_
  refine sw_istore_n dX10_leastOf_53 (by decide) rfl ?_
  show SW sc m_X10_leastOf _ _ _ 54 [some (.ref r0), some (.int l1), some (.int l2), some (.int (1 <<< (l5 &&& 31))), none, some (.int l5), some (.int l6)] [] h P
  refine sw_iload dX10_leastOf_54 rfl ?_
  refine sw_istore dX10_leastOf_56 (by decide) rfl ?_
  show SW sc m_X10_leastOf _ _ _ 58 [some (.ref r0), some (.int l1), some (.int l2), some (.int (1 <<< (l5 &&& 31))), some (.int l6), some (.int l5), some (.int l6)] [] h P
  exact sw_goto dX10_leastOf_58 (by decide) (sw_fg [false, false, false, false, false, false, true] rfl (k))
theorem b_X10_leastOf_61 {r0 : Nat} {l1 : Int32} {l2 : Int32} {l3 : Int32} {l4 : Int32} {l5 : Int32} {l6 : Int32} (kt : ¬ l6 = l4 → SW sc m_X10_leastOf d rc rs 75 [some (.ref r0), some (.int l1), some (.int l2), some (.int l3), some (.int l4), some (.int l5), none] [] h P) (kf : l6 = l4 → SW sc m_X10_leastOf d rc rs 68 [some (.ref r0), some (.int l1), some (.int l2), some (.int l3), some (.int l4), some (.int l5), none] [] h P) : SW sc m_X10_leastOf d rc rs 61 [some (.ref r0), some (.int l1), some (.int l2), some (.int l3), some (.int l4), some (.int l5), some (.int l6)] [] h P := by
  refine sw_iload dX10_leastOf_61 rfl ?_
  refine sw_iload dX10_leastOf_63 rfl ?_
  exact sw_icmp_ne dX10_leastOf_65 (by decide) (fun q => (sw_fg [false, false, false, false, false, false, true] rfl (kt q))) (fun q => (sw_fg [false, false, false, false, false, false, true] rfl (kf q)))
theorem b_X10_leastOf_68 {r0 : Nat} {l1 : Int32} {l2 : Int32} {l3 : Int32} {l4 : Int32} {l5 : Int32} (k : SW sc m_X10_leastOf d rc rs 75 [some (.ref r0), some (.int l1), some (.int l2), some (.int (l3 ||| (1 <<< (l5 &&& 31)))), some (.int l4), some (.int l5), none] [] h P) : SW sc m_X10_leastOf d rc rs 68 [some (.ref r0), some (.int l1), some (.int l2), some (.int l3), some (.int l4), some (.int l5), none] [] h P := by
  refine sw_iload_n dX10_leastOf_68 rfl ?_
  refine sw_iconst (v := 1) dX10_leastOf_69 (by decide) ?_
  refine sw_iload dX10_leastOf_70 rfl ?_
  refine sw_ishl dX10_leastOf_72 ?_
  refine sw_ior dX10_leastOf_73 ?_
  refine sw_istore_n dX10_leastOf_74 (by decide) rfl ?_
  show SW sc m_X10_leastOf _ _ _ 75 [some (.ref r0), some (.int l1), some (.int l2), some (.int (l3 ||| (1 <<< (l5 &&& 31)))), some (.int l4), some (.int l5), none] [] h P
  exact (k)
theorem b_X10_leastOf_75 {r0 : Nat} {l1 : Int32} {l2 : Int32} {l3 : Int32} {l4 : Int32} {l5 : Int32} (k : SW sc m_X10_leastOf d rc rs 8 [some (.ref r0), some (.int l1), some (.int l2), some (.int l3), some (.int l4), some (.int (l5 + 1)), none] [] h P) : SW sc m_X10_leastOf d rc rs 75 [some (.ref r0), some (.int l1), some (.int l2), some (.int l3), some (.int l4), some (.int l5), none] [] h P := by
  refine sw_iinc (v := l5 + 1) dX10_leastOf_75 rfl rfl (by decide) rfl ?_
  show SW sc m_X10_leastOf _ _ _ 78 [some (.ref r0), some (.int l1), some (.int l2), some (.int l3), some (.int l4), some (.int (l5 + 1)), none] [] h P
  exact sw_goto dX10_leastOf_78 (by decide) (k)
theorem b_X10_leastOf_81 {l3 : Int32} (hP : P (.inl (some (.int l3))) h) : SW sc m_X10_leastOf d rc rs 81 [none, none, none, some (.int l3), none, none, none] [] h P := by
  refine sw_iload_n dX10_leastOf_81 rfl ?_
  exact sw_ret (v := (some (.int l3))) dX10_leastOf_82 rt_i hP
theorem b_X10_diameter_0 {r0 : Nat} {l1 : Int32} (k : SW sc m_X10_diameter d rc rs 4 [some (.ref r0), some (.int l1), some (.int 0), some (.int 0)] [] h P) : SW sc m_X10_diameter d rc rs 0 [some (.ref r0), some (.int l1), none, none] [] h P := by
  refine sw_iconst (v := 0) dX10_diameter_0 (by decide) ?_
  refine sw_istore_n dX10_diameter_1 (by decide) rfl ?_
  show SW sc m_X10_diameter _ _ _ 2 [some (.ref r0), some (.int l1), some (.int 0), none] [] h P
  refine sw_iconst (v := 0) dX10_diameter_2 (by decide) ?_
  refine sw_istore_n dX10_diameter_3 (by decide) rfl ?_
  show SW sc m_X10_diameter _ _ _ 4 [some (.ref r0), some (.int l1), some (.int 0), some (.int 0)] [] h P
  exact (k)
theorem b_X10_diameter_4 {r0 : Nat} {l1 : Int32} {l2 : Int32} {l3 : Int32} {v3 : Int32} {g3 : ab_H} {fs3 : List Value} (hr3 : (h)[r0]? = some (10, fs3)) (hm3 : MSE m_X10_many d [.ref r0] h (some (.int v3)) g3) (kt : v3 ≤ l3 → SW sc m_X10_diameter (d + 1) rc rs 36 [none, none, some (.int l2), none] [] g3 P) (kf : ¬ (v3 ≤ l3) → SW sc m_X10_diameter (d + 1) rc rs 12 [some (.ref r0), some (.int l1), some (.int l2), some (.int l3)] [] g3 P) : SW sc m_X10_diameter (d + 1) rc rs 4 [some (.ref r0), some (.int l1), some (.int l2), some (.int l3)] [] h P := by
  refine sw_iload_n dX10_diameter_4 rfl ?_
  refine sw_aload_n dX10_diameter_5 rfl ?_
  refine sw_cV (M := m_X10_diameter) dX10_diameter_6 lv_X10_66 hm3 hr3 rfl (by decide) rfl rfl rfl (Nat.le_of_ble_eq_true rfl) (fun _ _ => rfl) rfl ?_
  show SW sc m_X10_diameter _ _ _ 9 [some (.ref r0), some (.int l1), some (.int l2), some (.int l3)] [.int v3, .int l3] g3 P
  exact sw_icmp_ge dX10_diameter_9 (by decide) (fun q => (sw_fg [true, true, false, true] rfl (kt q))) (fun q => (kf q))
theorem b_X10_diameter_12 {r0 : Nat} {l1 : Int32} {l2 : Int32} {l3 : Int32} {v3 : Int32} {g3 : ab_H} (hm3 : MSE m_X10_has d [.int l1, .int l3] h (some (.int v3)) g3) (kt : v3 = 0 → SW sc m_X10_diameter (d + 1) rc rs 30 [some (.ref r0), some (.int l1), some (.int l2), some (.int l3)] [] g3 P) (kf : ¬ (v3 = 0) → SW sc m_X10_diameter (d + 1) rc rs 20 [some (.ref r0), some (.int l1), some (.int l2), some (.int l3)] [] g3 P) : SW sc m_X10_diameter (d + 1) rc rs 12 [some (.ref r0), some (.int l1), some (.int l2), some (.int l3)] [] h P := by
  refine sw_iload_n dX10_diameter_12 rfl ?_
  refine sw_iload_n dX10_diameter_13 rfl ?_
  refine sw_cS (M := m_X10_diameter) dX10_diameter_14 ls_X10_70 hm3 rfl rfl (Nat.le_of_ble_eq_true rfl) (fun _ _ => rfl) rfl ?_
  show SW sc m_X10_diameter _ _ _ 17 [some (.ref r0), some (.int l1), some (.int l2), some (.int l3)] [.int v3] g3 P
  exact sw_if_eq dX10_diameter_17 (by decide) (fun q => (kt q)) (fun q => (kf q))
theorem b_X10_diameter_20 {r0 : Nat} {l1 : Int32} {l2 : Int32} {l3 : Int32} {v4 : Int32} {g4 : ab_H} {fs4 : List Value} {v5 : Int32} {g5 : ab_H} (hr4 : (h)[r0]? = some (10, fs4)) (hm4 : MSE m_X10_eccentricity d [.ref r0, .int l3] h (some (.int v4)) g4) (hm5 : MSE m_J9_max_7cf53 d [.int l2, .int v4] g4 (some (.int v5)) g5) (k : SW sc m_X10_diameter (d + 1) rc rs 30 [some (.ref r0), some (.int l1), some (.int v5), some (.int l3)] [] g5 P) : SW sc m_X10_diameter (d + 1) rc rs 20 [some (.ref r0), some (.int l1), some (.int l2), some (.int l3)] [] h P := by
  refine sw_iload_n dX10_diameter_20 rfl ?_
  refine sw_aload_n dX10_diameter_21 rfl ?_
  refine sw_iload_n dX10_diameter_22 rfl ?_
  refine sw_cV (M := m_X10_diameter) dX10_diameter_23 lv_X10_102 hm4 hr4 rfl (by decide) rfl rfl rfl (Nat.le_of_ble_eq_true rfl) (fun _ _ => rfl) rfl ?_
  show SW sc m_X10_diameter _ _ _ 26 [some (.ref r0), some (.int l1), some (.int l2), some (.int l3)] [.int v4, .int l2] g4 P
  refine sw_cS (M := m_X10_diameter) dX10_diameter_26 ls_X10_93 hm5 rfl rfl (Nat.le_of_ble_eq_true rfl) (fun _ _ => rfl) rfl ?_
  show SW sc m_X10_diameter _ _ _ 29 [some (.ref r0), some (.int l1), some (.int l2), some (.int l3)] [.int v5] g5 P
  refine sw_istore_n dX10_diameter_29 (by decide) rfl ?_
  show SW sc m_X10_diameter _ _ _ 30 [some (.ref r0), some (.int l1), some (.int v5), some (.int l3)] [] g5 P
  exact (k)
theorem b_X10_diameter_30 {r0 : Nat} {l1 : Int32} {l2 : Int32} {l3 : Int32} (k : SW sc m_X10_diameter d rc rs 4 [some (.ref r0), some (.int l1), some (.int l2), some (.int (l3 + 1))] [] h P) : SW sc m_X10_diameter d rc rs 30 [some (.ref r0), some (.int l1), some (.int l2), some (.int l3)] [] h P := by
  refine sw_iinc (v := l3 + 1) dX10_diameter_30 rfl rfl (by decide) rfl ?_
  show SW sc m_X10_diameter _ _ _ 33 [some (.ref r0), some (.int l1), some (.int l2), some (.int (l3 + 1))] [] h P
  exact sw_goto dX10_diameter_33 (by decide) (k)
theorem b_X10_diameter_36 {l2 : Int32} (hP : P (.inl (some (.int l2))) h) : SW sc m_X10_diameter d rc rs 36 [none, none, some (.int l2), none] [] h P := by
  refine sw_iload_n dX10_diameter_36 rfl ?_
  exact sw_ret (v := (some (.int l2))) dX10_diameter_37 rt_i hP
theorem b_X10_leavesIn_0 {r0 : Nat} {l1 : Int32} (k : SW sc m_X10_leavesIn d rc rs 4 [some (.ref r0), some (.int l1), some (.int 0), some (.int 0)] [] h P) : SW sc m_X10_leavesIn d rc rs 0 [some (.ref r0), some (.int l1), none, none] [] h P := by
  refine sw_iconst (v := 0) dX10_leavesIn_0 (by decide) ?_
  refine sw_istore_n dX10_leavesIn_1 (by decide) rfl ?_
  show SW sc m_X10_leavesIn _ _ _ 2 [some (.ref r0), some (.int l1), some (.int 0), none] [] h P
  refine sw_iconst (v := 0) dX10_leavesIn_2 (by decide) ?_
  refine sw_istore_n dX10_leavesIn_3 (by decide) rfl ?_
  show SW sc m_X10_leavesIn _ _ _ 4 [some (.ref r0), some (.int l1), some (.int 0), some (.int 0)] [] h P
  exact (k)
theorem b_X10_leavesIn_4 {r0 : Nat} {l1 : Int32} {l2 : Int32} {l3 : Int32} {v3 : Int32} {g3 : ab_H} {fs3 : List Value} (hr3 : (h)[r0]? = some (10, fs3)) (hm3 : MSE m_X10_many d [.ref r0] h (some (.int v3)) g3) (kt : v3 ≤ l3 → SW sc m_X10_leavesIn (d + 1) rc rs 46 [none, none, some (.int l2), none] [] g3 P) (kf : ¬ (v3 ≤ l3) → SW sc m_X10_leavesIn (d + 1) rc rs 12 [some (.ref r0), some (.int l1), some (.int l2), some (.int l3)] [] g3 P) : SW sc m_X10_leavesIn (d + 1) rc rs 4 [some (.ref r0), some (.int l1), some (.int l2), some (.int l3)] [] h P := by
  refine sw_iload_n dX10_leavesIn_4 rfl ?_
  refine sw_aload_n dX10_leavesIn_5 rfl ?_
  refine sw_cV (M := m_X10_leavesIn) dX10_leavesIn_6 lv_X10_66 hm3 hr3 rfl (by decide) rfl rfl rfl (Nat.le_of_ble_eq_true rfl) (fun _ _ => rfl) rfl ?_
  show SW sc m_X10_leavesIn _ _ _ 9 [some (.ref r0), some (.int l1), some (.int l2), some (.int l3)] [.int v3, .int l3] g3 P
  exact sw_icmp_ge dX10_leavesIn_9 (by decide) (fun q => (sw_fg [true, true, false, true] rfl (kt q))) (fun q => (kf q))
theorem b_X10_leavesIn_12 {r0 : Nat} {l1 : Int32} {l2 : Int32} {l3 : Int32} {v4 : Int32} {g4 : ab_H} (hm4 : MSE m_X10_has d [.int l1, .int l3] h (some (.int v4)) g4) (kt : v4 = 0 → SW sc m_X10_leavesIn (d + 1) rc rs 37 [some (.ref r0), some (.int l1), none, some (.int l3)] [.int l2] g4 P) (kf : ¬ (v4 = 0) → SW sc m_X10_leavesIn (d + 1) rc rs 21 [some (.ref r0), some (.int l1), none, some (.int l3)] [.int l2] g4 P) : SW sc m_X10_leavesIn (d + 1) rc rs 12 [some (.ref r0), some (.int l1), some (.int l2), some (.int l3)] [] h P := by
  refine sw_iload_n dX10_leavesIn_12 rfl ?_
  refine sw_iload_n dX10_leavesIn_13 rfl ?_
  refine sw_iload_n dX10_leavesIn_14 rfl ?_
  refine sw_cS (M := m_X10_leavesIn) dX10_leavesIn_15 ls_X10_70 hm4 rfl rfl (Nat.le_of_ble_eq_true rfl) (fun _ _ => rfl) rfl ?_
  show SW sc m_X10_leavesIn _ _ _ 18 [some (.ref r0), some (.int l1), some (.int l2), some (.int l3)] [.int v4, .int l2] g4 P
  exact sw_if_eq dX10_leavesIn_18 (by decide) (fun q => (sw_fg [false, false, true, false] rfl (kt q))) (fun q => (sw_fg [false, false, true, false] rfl (kf q)))
theorem b_X10_leavesIn_21 {r0 : Nat} {l1 : Int32} {l3 : Int32} {s0 : Int32} {v3 : Int32} {g3 : ab_H} {fs3 : List Value} {v4 : Int32} {g4 : ab_H} (hr3 : (h)[r0]? = some (10, fs3)) (hm3 : MSE m_X10_at d [.ref r0, .int l3] h (some (.int v3)) g3) (hm4 : MSE m_X10_ones d [.int v3] g3 (some (.int v4)) g4) (kt : ¬ v4 = 1 → SW sc m_X10_leavesIn (d + 1) rc rs 37 [some (.ref r0), some (.int l1), none, some (.int l3)] [.int s0] g4 P) (kf : v4 = 1 → SW sc m_X10_leavesIn (d + 1) rc rs 33 [some (.ref r0), some (.int l1), none, some (.int l3)] [.int s0] g4 P) : SW sc m_X10_leavesIn (d + 1) rc rs 21 [some (.ref r0), some (.int l1), none, some (.int l3)] [.int s0] h P := by
  refine sw_aload_n dX10_leavesIn_21 rfl ?_
  refine sw_iload_n dX10_leavesIn_22 rfl ?_
  refine sw_cV (M := m_X10_leavesIn) dX10_leavesIn_23 lv_X10_74 hm3 hr3 rfl (by decide) rfl rfl rfl (Nat.le_of_ble_eq_true rfl) (fun _ _ => rfl) rfl ?_
  show SW sc m_X10_leavesIn _ _ _ 26 [some (.ref r0), some (.int l1), none, some (.int l3)] [.int v3, .int s0] g3 P
  refine sw_cS (M := m_X10_leavesIn) dX10_leavesIn_26 ls_X10_111 hm4 rfl rfl (Nat.le_of_ble_eq_true rfl) (fun _ _ => rfl) rfl ?_
  show SW sc m_X10_leavesIn _ _ _ 29 [some (.ref r0), some (.int l1), none, some (.int l3)] [.int v4, .int s0] g4 P
  refine sw_iconst (v := 1) dX10_leavesIn_29 (by decide) ?_
  exact sw_icmp_ne dX10_leavesIn_30 (by decide) (fun q => (kt q)) (fun q => (kf q))
theorem b_X10_leavesIn_33 {r0 : Nat} {l1 : Int32} {l3 : Int32} {s0 : Int32} (k : SW sc m_X10_leavesIn d rc rs 38 [some (.ref r0), some (.int l1), none, some (.int l3)] [.int 1, .int s0] h P) : SW sc m_X10_leavesIn d rc rs 33 [some (.ref r0), some (.int l1), none, some (.int l3)] [.int s0] h P := by
  refine sw_iconst (v := 1) dX10_leavesIn_33 (by decide) ?_
  exact sw_goto dX10_leavesIn_34 (by decide) (k)
theorem b_X10_leavesIn_37 {r0 : Nat} {l1 : Int32} {l3 : Int32} {s0 : Int32} (k : SW sc m_X10_leavesIn d rc rs 38 [some (.ref r0), some (.int l1), none, some (.int l3)] [.int 0, .int s0] h P) : SW sc m_X10_leavesIn d rc rs 37 [some (.ref r0), some (.int l1), none, some (.int l3)] [.int s0] h P := by
  refine sw_iconst (v := 0) dX10_leavesIn_37 (by decide) ?_
  exact (k)
theorem b_X10_leavesIn_38 {r0 : Nat} {l1 : Int32} {l3 : Int32} {s0 : Int32} {s1 : Int32} (k : SW sc m_X10_leavesIn d rc rs 4 [some (.ref r0), some (.int l1), some (.int (s0 + s1)), some (.int (l3 + 1))] [] h P) : SW sc m_X10_leavesIn d rc rs 38 [some (.ref r0), some (.int l1), none, some (.int l3)] [.int s1, .int s0] h P := by
  refine sw_iadd dX10_leavesIn_38 ?_
  refine sw_istore_n dX10_leavesIn_39 (by decide) rfl ?_
  show SW sc m_X10_leavesIn _ _ _ 40 [some (.ref r0), some (.int l1), some (.int (s0 + s1)), some (.int l3)] [] h P
  refine sw_iinc (v := l3 + 1) dX10_leavesIn_40 rfl rfl (by decide) rfl ?_
  show SW sc m_X10_leavesIn _ _ _ 43 [some (.ref r0), some (.int l1), some (.int (s0 + s1)), some (.int (l3 + 1))] [] h P
  exact sw_goto dX10_leavesIn_43 (by decide) (k)
theorem b_X10_leavesIn_46 {l2 : Int32} (hP : P (.inl (some (.int l2))) h) : SW sc m_X10_leavesIn d rc rs 46 [none, none, some (.int l2), none] [] h P := by
  refine sw_iload_n dX10_leavesIn_46 rfl ?_
  exact sw_ret (v := (some (.int l2))) dX10_leavesIn_47 rt_i hP
theorem b_X10_isLess_0 {l0 : Int32} {l1 : Int32} {v5 : Int32} {g5 : ab_H} {v13 : Int32} {g13 : ab_H} (hm5 : MSE m_X10_ones d [.int l0] h (some (.int v5)) g5) (hm13 : MSE m_X10_ones d [.int l1] g5 (some (.int v13)) g13) (kt : (l1 <<< ((20 - (2 * v13)) &&& 31)) ≤ (l0 <<< ((20 - (2 * v5)) &&& 31)) → SW sc m_X10_isLess (d + 1) rc rs 29 [none, none] [] g13 P) (kf : ¬ ((l1 <<< ((20 - (2 * v13)) &&& 31)) ≤ (l0 <<< ((20 - (2 * v5)) &&& 31))) → SW sc m_X10_isLess (d + 1) rc rs 25 [none, none] [] g13 P) : SW sc m_X10_isLess (d + 1) rc rs 0 [some (.int l0), some (.int l1)] [] h P := by
  refine sw_iload_n dX10_isLess_0 rfl ?_
  refine sw_bipush (v := 20) dX10_isLess_1 (by decide) ?_
  refine sw_iconst (v := 2) dX10_isLess_3 (by decide) ?_
  refine sw_iload_n dX10_isLess_4 rfl ?_
  refine sw_cS (M := m_X10_isLess) dX10_isLess_5 ls_X10_111 hm5 rfl rfl (Nat.le_of_ble_eq_true rfl) (fun _ _ => rfl) rfl ?_
  show SW sc m_X10_isLess _ _ _ 8 [some (.int l0), some (.int l1)] [.int v5, .int 2, .int 20, .int l0] g5 P
  refine sw_imul dX10_isLess_8 ?_
  refine sw_isub dX10_isLess_9 ?_
  refine sw_ishl dX10_isLess_10 ?_
  refine sw_iload_n dX10_isLess_11 rfl ?_
  refine sw_bipush (v := 20) dX10_isLess_12 (by decide) ?_
  refine sw_iconst (v := 2) dX10_isLess_14 (by decide) ?_
  refine sw_iload_n dX10_isLess_15 rfl ?_
  refine sw_cS (M := m_X10_isLess) dX10_isLess_16 ls_X10_111 hm13 rfl rfl (Nat.le_of_ble_eq_true rfl) (fun _ _ => rfl) rfl ?_
  show SW sc m_X10_isLess _ _ _ 19 [some (.int l0), some (.int l1)] [.int v13, .int 2, .int 20, .int l1, .int (l0 <<< ((20 - (2 * v5)) &&& 31))] g13 P
  refine sw_imul dX10_isLess_19 ?_
  refine sw_isub dX10_isLess_20 ?_
  refine sw_ishl dX10_isLess_21 ?_
  exact sw_icmp_ge dX10_isLess_22 (by decide) (fun q => (sw_fg [true, true] rfl (kt q))) (fun q => (sw_fg [true, true] rfl (kf q)))
theorem b_X10_isLess_25  (k : SW sc m_X10_isLess d rc rs 30 [none, none] [.int 1] h P) : SW sc m_X10_isLess d rc rs 25 [none, none] [] h P := by
  refine sw_iconst (v := 1) dX10_isLess_25 (by decide) ?_
  exact sw_goto dX10_isLess_26 (by decide) (k)
theorem b_X10_isLess_29  (k : SW sc m_X10_isLess d rc rs 30 [none, none] [.int 0] h P) : SW sc m_X10_isLess d rc rs 29 [none, none] [] h P := by
  refine sw_iconst (v := 0) dX10_isLess_29 (by decide) ?_
  exact (k)
theorem b_X10_isLess_30 {s0 : Int32} (hz1 : narrow .boolean (.int s0) = .int s0) (hP : P (.inl (some (.int s0))) h) : SW sc m_X10_isLess d rc rs 30 [none, none] [.int s0] h P := by
  exact sw_ret (v := (some (.int s0))) dX10_isLess_30 (rt_n hz1) hP
theorem b_X10_wordOf_0 {r0 : Nat} {l1 : Int32} {l2 : Int32} {l3 : Int32} (k : SW sc m_X10_wordOf d rc rs 12 [some (.ref r0), some (.int l1), some (.int l2), some (.int l3), some (.int (11 * l3)), some (.int 0), some (.int 0), none, none] [] h P) : SW sc m_X10_wordOf d rc rs 0 [some (.ref r0), some (.int l1), some (.int l2), some (.int l3), none, none, none, none, none] [] h P := by
  refine sw_bipush (v := 11) dX10_wordOf_0 (by decide) ?_
  refine sw_iload_n dX10_wordOf_2 rfl ?_
  refine sw_imul dX10_wordOf_3 ?_
  refine sw_istore dX10_wordOf_4 (by decide) rfl ?_
  show SW sc m_X10_wordOf _ _ _ 6 [some (.ref r0), some (.int l1), some (.int l2), some (.int l3), some (.int (11 * l3)), none, none, none, none] [] h P
  refine sw_iconst (v := 0) dX10_wordOf_6 (by decide) ?_
  refine sw_istore dX10_wordOf_7 (by decide) rfl ?_
  show SW sc m_X10_wordOf _ _ _ 9 [some (.ref r0), some (.int l1), some (.int l2), some (.int l3), some (.int (11 * l3)), some (.int 0), none, none, none] [] h P
  refine sw_iconst (v := 0) dX10_wordOf_9 (by decide) ?_
  refine sw_istore dX10_wordOf_10 (by decide) rfl ?_
  show SW sc m_X10_wordOf _ _ _ 12 [some (.ref r0), some (.int l1), some (.int l2), some (.int l3), some (.int (11 * l3)), some (.int 0), some (.int 0), none, none] [] h P
  exact (k)
theorem b_X10_wordOf_12 {r0 : Nat} {l1 : Int32} {l2 : Int32} {l3 : Int32} {l4 : Int32} {l5 : Int32} {l6 : Int32} {v3 : Int32} {g3 : ab_H} {fs3 : List Value} (hr3 : (h)[r0]? = some (10, fs3)) (hm3 : MSE m_X10_many d [.ref r0] h (some (.int v3)) g3) (kt : v3 ≤ l6 → SW sc m_X10_wordOf (d + 1) rc rs 133 [some (.ref r0), none, none, none, some (.int l4), some (.int l5), none, none, none] [] g3 P) (kf : ¬ (v3 ≤ l6) → SW sc m_X10_wordOf (d + 1) rc rs 21 [some (.ref r0), some (.int l1), some (.int l2), some (.int l3), some (.int l4), some (.int l5), some (.int l6), none, none] [] g3 P) : SW sc m_X10_wordOf (d + 1) rc rs 12 [some (.ref r0), some (.int l1), some (.int l2), some (.int l3), some (.int l4), some (.int l5), some (.int l6), none, none] [] h P := by
  refine sw_iload dX10_wordOf_12 rfl ?_
  refine sw_aload_n dX10_wordOf_14 rfl ?_
  refine sw_cV (M := m_X10_wordOf) dX10_wordOf_15 lv_X10_66 hm3 hr3 rfl (by decide) rfl rfl rfl (Nat.le_of_ble_eq_true rfl) (fun _ _ => rfl) rfl ?_
  show SW sc m_X10_wordOf _ _ _ 18 [some (.ref r0), some (.int l1), some (.int l2), some (.int l3), some (.int l4), some (.int l5), some (.int l6), none, none] [.int v3, .int l6] g3 P
  exact sw_icmp_ge dX10_wordOf_18 (by decide) (fun q => (sw_fg [false, true, true, true, false, false, true, false, false] rfl (kt q))) (fun q => (kf q))
theorem b_X10_wordOf_21 {r0 : Nat} {l1 : Int32} {l2 : Int32} {l3 : Int32} {l4 : Int32} {l5 : Int32} {l6 : Int32} {v3 : Int32} {g3 : ab_H} {fs3 : List Value} {v5 : Int32} {g5 : ab_H} (hr3 : (h)[r0]? = some (10, fs3)) (hm3 : MSE m_X10_at d [.ref r0, .int l1] h (some (.int v3)) g3) (hm5 : MSE m_X10_has d [.int v3, .int l6] g3 (some (.int v5)) g5) (kt : v5 = 0 → SW sc m_X10_wordOf (d + 1) rc rs 127 [some (.ref r0), some (.int l1), some (.int l2), some (.int l3), some (.int l4), some (.int l5), some (.int l6), none, none] [] g5 P) (kf : ¬ (v5 = 0) → SW sc m_X10_wordOf (d + 1) rc rs 34 [some (.ref r0), some (.int l1), some (.int l2), some (.int l3), some (.int l4), some (.int l5), some (.int l6), none, none] [] g5 P) : SW sc m_X10_wordOf (d + 1) rc rs 21 [some (.ref r0), some (.int l1), some (.int l2), some (.int l3), some (.int l4), some (.int l5), some (.int l6), none, none] [] h P := by
  refine sw_aload_n dX10_wordOf_21 rfl ?_
  refine sw_iload_n dX10_wordOf_22 rfl ?_
  refine sw_cV (M := m_X10_wordOf) dX10_wordOf_23 lv_X10_74 hm3 hr3 rfl (by decide) rfl rfl rfl (Nat.le_of_ble_eq_true rfl) (fun _ _ => rfl) rfl ?_
  show SW sc m_X10_wordOf _ _ _ 26 [some (.ref r0), some (.int l1), some (.int l2), some (.int l3), some (.int l4), some (.int l5), some (.int l6), none, none] [.int v3] g3 P
  refine sw_iload dX10_wordOf_26 rfl ?_
  refine sw_cS (M := m_X10_wordOf) dX10_wordOf_28 ls_X10_70 hm5 rfl rfl (Nat.le_of_ble_eq_true rfl) (fun _ _ => rfl) rfl ?_
  show SW sc m_X10_wordOf _ _ _ 31 [some (.ref r0), some (.int l1), some (.int l2), some (.int l3), some (.int l4), some (.int l5), some (.int l6), none, none] [.int v5] g5 P
  exact sw_if_eq dX10_wordOf_31 (by decide) (fun q => (kt q)) (fun q => (kf q))
theorem b_X10_wordOf_34 {r0 : Nat} {l1 : Int32} {l2 : Int32} {l3 : Int32} {l4 : Int32} {l5 : Int32} {l6 : Int32} (kt : ¬ l6 = l2 → SW sc m_X10_wordOf d rc rs 43 [some (.ref r0), some (.int l1), some (.int l2), some (.int l3), some (.int l4), some (.int l5), some (.int l6), none, none] [] h P) (kf : l6 = l2 → SW sc m_X10_wordOf d rc rs 40 [some (.ref r0), some (.int l1), some (.int l2), some (.int l3), some (.int l4), some (.int l5), some (.int l6), none, none] [] h P) : SW sc m_X10_wordOf d rc rs 34 [some (.ref r0), some (.int l1), some (.int l2), some (.int l3), some (.int l4), some (.int l5), some (.int l6), none, none] [] h P := by
  refine sw_iload dX10_wordOf_34 rfl ?_
  refine sw_iload_n dX10_wordOf_36 rfl ?_
  exact sw_icmp_ne dX10_wordOf_37 (by decide) (fun q => (kt q)) (fun q => (kf q))
theorem b_X10_wordOf_40 {r0 : Nat} {l1 : Int32} {l2 : Int32} {l3 : Int32} {l4 : Int32} {l5 : Int32} {l6 : Int32} (k : SW sc m_X10_wordOf d rc rs 127 [some (.ref r0), some (.int l1), some (.int l2), some (.int l3), some (.int l4), some (.int l5), some (.int l6), none, none] [] h P) : SW sc m_X10_wordOf d rc rs 40 [some (.ref r0), some (.int l1), some (.int l2), some (.int l3), some (.int l4), some (.int l5), some (.int l6), none, none] [] h P := by
  exact sw_goto dX10_wordOf_40 (by decide) (k)
theorem b_X10_wordOf_43 {r0 : Nat} {l1 : Int32} {l2 : Int32} {l3 : Int32} {l4 : Int32} {l5 : Int32} {l6 : Int32} {v7 : Int32} {g7 : ab_H} {fs7 : List Value} (hr7 : (h)[r0]? = some (10, fs7)) (hm7 : MSE m_X10_wordOf d [.ref r0, .int l6, .int l1, .int (l3 + 1)] h (some (.int v7)) g7) (k : SW sc m_X10_wordOf (d + 1) rc rs 59 [some (.ref r0), some (.int l1), some (.int l2), some (.int l3), some (.int l4), some (.int l5), some (.int l6), some (.int v7), some (.int l5)] [] g7 P) : SW sc m_X10_wordOf (d + 1) rc rs 43 [some (.ref r0), some (.int l1), some (.int l2), some (.int l3), some (.int l4), some (.int l5), some (.int l6), none, none] [] h P := by
  refine sw_aload_n dX10_wordOf_43 rfl ?_
  refine sw_iload dX10_wordOf_44 rfl ?_
  refine sw_iload_n dX10_wordOf_46 rfl ?_
  refine sw_iload_n dX10_wordOf_47 rfl ?_
  refine sw_iconst (v := 1) dX10_wordOf_48 (by decide) ?_
  refine sw_iadd dX10_wordOf_49 ?_
  refine sw_cV (M := m_X10_wordOf) dX10_wordOf_50 lv_X10_114 hm7 hr7 rfl (by decide) rfl rfl rfl (Nat.le_of_ble_eq_true rfl) (fun _ _ => rfl) rfl ?_
  show SW sc m_X10_wordOf _ _ _ 53 [some (.ref r0), some (.int l1), some (.int l2), some (.int l3), some (.int l4), some (.int l5), some (.int l6), none, none] [.int v7] g7 P
  refine sw_istore dX10_wordOf_53 (by decide) rfl ?_
  show SW sc m_X10_wordOf _ _ _ 55 [some (.ref r0), some (.int l1), some (.int l2), some (.int l3), some (.int l4), some (.int l5), some (.int l6), some (.int v7), none] [] g7 P
  refine sw_iload dX10_wordOf_55 rfl ?_
  refine sw_istore dX10_wordOf_57 (by decide) rfl ?_
  show SW sc m_X10_wordOf _ _ _ 59 [some (.ref r0), some (.int l1), some (.int l2), some (.int l3), some (.int l4), some (.int l5), some (.int l6), some (.int v7), some (.int l5)] [] g7 P
  exact (k)
theorem b_X10_wordOf_59 {r0 : Nat} {l1 : Int32} {l2 : Int32} {l3 : Int32} {l4 : Int32} {l5 : Int32} {l6 : Int32} {l7 : Int32} {l8 : Int32} (kt : l8 ≤ 0 → SW sc m_X10_wordOf d rc rs 112 [some (.ref r0), some (.int l1), some (.int l2), some (.int l3), some (.int l4), some (.int l5), some (.int l6), some (.int l7), some (.int l8)] [] h P) (kf : ¬ (l8 ≤ 0) → SW sc m_X10_wordOf d rc rs 64 [some (.ref r0), some (.int l1), some (.int l2), some (.int l3), some (.int l4), some (.int l5), some (.int l6), some (.int l7), some (.int l8)] [] h P) : SW sc m_X10_wordOf d rc rs 59 [some (.ref r0), some (.int l1), some (.int l2), some (.int l3), some (.int l4), some (.int l5), some (.int l6), some (.int l7), some (.int l8)] [] h P := by
  refine sw_iload dX10_wordOf_59 rfl ?_
  exact sw_if_le dX10_wordOf_61 (by decide) (fun q => (kt q)) (fun q => (kf q))
theorem b_X10_wordOf_64 {r0 : Nat} {l1 : Int32} {l2 : Int32} {l3 : Int32} {l4 : Int32} {l5 : Int32} {l6 : Int32} {l7 : Int32} {l8 : Int32} {fs3 : List Value} {a3 : Nat} {vs9 : List Value} {x9 : Int32} {v10 : Int32} {g10 : ab_H} (hc3 : (h)[r0]? = some (10, fs3)) (hv3 : fs3[11]? = some (.ref a3)) (hc9 : (h)[a3]? = some (100, vs9)) (ho9 : ¬ ((l4 + l8) - 1) < 0) (hi9 : vs9[((l4 + l8) - 1).toNatClampNeg]? = some (.int x9)) (hm10 : MSE m_X10_isLess d [.int l7, .int x9] h (some (.int v10)) g10) (kt : v10 = 0 → SW sc m_X10_wordOf (d + 1) rc rs 112 [some (.ref r0), some (.int l1), some (.int l2), some (.int l3), some (.int l4), some (.int l5), some (.int l6), some (.int l7), some (.int l8)] [] g10 P) (kf : ¬ (v10 = 0) → SW sc m_X10_wordOf (d + 1) rc rs 84 [some (.ref r0), some (.int l1), some (.int l2), some (.int l3), some (.int l4), some (.int l5), some (.int l6), some (.int l7), some (.int l8)] [] g10 P) : SW sc m_X10_wordOf (d + 1) rc rs 64 [some (.ref r0), some (.int l1), some (.int l2), some (.int l3), some (.int l4), some (.int l5), some (.int l6), some (.int l7), some (.int l8)] [] h P := by
  refine sw_iload dX10_wordOf_64 rfl ?_
  refine sw_aload_n dX10_wordOf_66 rfl ?_
  refine sw_getf dX10_wordOf_67 lf_X10_38 hc3 hv3 ?_
  refine sw_iload dX10_wordOf_70 rfl ?_
  refine sw_iload dX10_wordOf_72 rfl ?_
  refine sw_iadd dX10_wordOf_74 ?_
  refine sw_iconst (v := 1) dX10_wordOf_75 (by decide) ?_
  refine sw_isub dX10_wordOf_76 ?_
  refine sw_iald dX10_wordOf_77 hc9 ho9 hi9 ?_
  refine sw_cS (M := m_X10_wordOf) dX10_wordOf_78 ls_X10_118 hm10 rfl rfl (Nat.le_of_ble_eq_true rfl) (fun _ _ => rfl) rfl ?_
  show SW sc m_X10_wordOf _ _ _ 81 [some (.ref r0), some (.int l1), some (.int l2), some (.int l3), some (.int l4), some (.int l5), some (.int l6), some (.int l7), some (.int l8)] [.int v10] g10 P
  exact sw_if_eq dX10_wordOf_81 (by decide) (fun q => (kt q)) (fun q => (kf q))
theorem b_X10_wordOf_84 {r0 : Nat} {l1 : Int32} {l2 : Int32} {l3 : Int32} {l4 : Int32} {l5 : Int32} {l6 : Int32} {l7 : Int32} {l8 : Int32} {fs2 : List Value} {a2 : Nat} {fs7 : List Value} {a7 : Nat} {vs13 : List Value} {x13 : Int32} {vs14 : List Value} (hc2 : (h)[r0]? = some (10, fs2)) (hv2 : fs2[11]? = some (.ref a2)) (hc7 : (h)[r0]? = some (10, fs7)) (hv7 : fs7[11]? = some (.ref a7)) (hc13 : (h)[a7]? = some (100, vs13)) (ho13 : ¬ ((l4 + l8) - 1) < 0) (hi13 : vs13[((l4 + l8) - 1).toNatClampNeg]? = some (.int x13)) (hc14 : (h)[a2]? = some (100, vs14)) (ho14 : ¬ (l4 + l8) < 0) (hl14 : (l4 + l8).toNatClampNeg < vs14.length) (k : SW sc m_X10_wordOf d rc rs 59 [some (.ref r0), some (.int l1), some (.int l2), some (.int l3), some (.int l4), some (.int l5), some (.int l6), some (.int l7), some (.int (l8 + (-1)))] [] ((h).set a2 (100, vs14.set (l4 + l8).toNatClampNeg (.int x13))) P) : SW sc m_X10_wordOf d rc rs 84 [some (.ref r0), some (.int l1), some (.int l2), some (.int l3), some (.int l4), some (.int l5), some (.int l6), some (.int l7), some (.int l8)] [] h P := by
  refine sw_aload_n dX10_wordOf_84 rfl ?_
  refine sw_getf dX10_wordOf_85 lf_X10_38 hc2 hv2 ?_
  refine sw_iload dX10_wordOf_88 rfl ?_
  refine sw_iload dX10_wordOf_90 rfl ?_
  refine sw_iadd dX10_wordOf_92 ?_
  refine sw_aload_n dX10_wordOf_93 rfl ?_
  refine sw_getf dX10_wordOf_94 lf_X10_38 hc7 hv7 ?_
  refine sw_iload dX10_wordOf_97 rfl ?_
  refine sw_iload dX10_wordOf_99 rfl ?_
  refine sw_iadd dX10_wordOf_101 ?_
  refine sw_iconst (v := 1) dX10_wordOf_102 (by decide) ?_
  refine sw_isub dX10_wordOf_103 ?_
  refine sw_iald dX10_wordOf_104 hc13 ho13 hi13 ?_
  refine sw_iast dX10_wordOf_105 hc14 ho14 hl14 ?_
  refine sw_iinc (v := l8 + (-1)) dX10_wordOf_106 rfl rfl (by decide) rfl ?_
  show SW sc m_X10_wordOf _ _ _ 109 [some (.ref r0), some (.int l1), some (.int l2), some (.int l3), some (.int l4), some (.int l5), some (.int l6), some (.int l7), some (.int (l8 + (-1)))] [] ((h).set a2 (100, vs14.set (l4 + l8).toNatClampNeg (.int x13))) P
  exact sw_goto dX10_wordOf_109 (by decide) (k)
theorem b_X10_wordOf_112 {r0 : Nat} {l1 : Int32} {l2 : Int32} {l3 : Int32} {l4 : Int32} {l5 : Int32} {l6 : Int32} {l7 : Int32} {l8 : Int32} {fs2 : List Value} {a2 : Nat} {vs7 : List Value} (hc2 : (h)[r0]? = some (10, fs2)) (hv2 : fs2[11]? = some (.ref a2)) (hc7 : (h)[a2]? = some (100, vs7)) (ho7 : ¬ (l4 + l8) < 0) (hl7 : (l4 + l8).toNatClampNeg < vs7.length) (k : SW sc m_X10_wordOf d rc rs 127 [some (.ref r0), some (.int l1), some (.int l2), some (.int l3), some (.int l4), some (.int (l5 + 1)), some (.int l6), none, none] [] ((h).set a2 (100, vs7.set (l4 + l8).toNatClampNeg (.int l7))) P) : SW sc m_X10_wordOf d rc rs 112 [some (.ref r0), some (.int l1), some (.int l2), some (.int l3), some (.int l4), some (.int l5), some (.int l6), some (.int l7), some (.int l8)] [] h P := by
  refine sw_aload_n dX10_wordOf_112 rfl ?_
  refine sw_getf dX10_wordOf_113 lf_X10_38 hc2 hv2 ?_
  refine sw_iload dX10_wordOf_116 rfl ?_
  refine sw_iload dX10_wordOf_118 rfl ?_
  refine sw_iadd dX10_wordOf_120 ?_
  refine sw_iload dX10_wordOf_121 rfl ?_
  refine sw_iast dX10_wordOf_123 hc7 ho7 hl7 ?_
  refine sw_iinc (v := l5 + 1) dX10_wordOf_124 rfl rfl (by decide) rfl ?_
  show SW sc m_X10_wordOf _ _ _ 127 [some (.ref r0), some (.int l1), some (.int l2), some (.int l3), some (.int l4), some (.int (l5 + 1)), some (.int l6), some (.int l7), some (.int l8)] [] ((h).set a2 (100, vs7.set (l4 + l8).toNatClampNeg (.int l7))) P
  exact (sw_fg [false, false, false, false, false, false, false, true, true] rfl (k))
end
