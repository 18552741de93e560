section
variable {sc : Option (List Int32)} {d rc rs : Nat} {h : ab_H} {P : ab_O → ab_H → Prop}
theorem b_X3_greatestPart_74 {l4 : Int32} (hP : P (.inl (some (.int l4))) h) : SW sc m_X3_greatestPart d rc rs 74 [none, none, none, none, some (.int l4), none, none] [] h P := by
  refine sw_iload dX3_greatestPart_74 rfl ?_
  exact sw_ret (v := (some (.int l4))) dX3_greatestPart_76 rt_i hP
theorem b_X3_measure_0 {r0 : Nat} {l1 : Int32} {l2 : Int32} (kt : ¬ l2 = 0 → SW sc m_X3_measure d rc rs 12 [some (.ref r0), some (.int l1), some (.int l2)] [] h P) (kf : l2 = 0 → SW sc m_X3_measure d rc rs 4 [some (.ref r0), some (.int l1), none] [] h P) : SW sc m_X3_measure d rc rs 0 [some (.ref r0), some (.int l1), some (.int l2)] [] h P := by
  refine sw_iload_n dX3_measure_0 rfl ?_
  exact sw_if_ne dX3_measure_1 (by decide) (fun q => (kt q)) (fun q => (sw_fg [false, false, true] rfl (kf q)))
theorem b_X3_measure_4 {r0 : Nat} {l1 : Int32} {v3 : Int32} {g3 : ab_H} {fs3 : List Value} (hr3 : (h)[r0]? = some (3, fs3)) (hm3 : MSE m_X3_eccentricity d [.ref r0, .int l1] h (some (.int v3)) g3) (k : SW sc m_X3_measure (d + 1) rc rs 27 [none, none, none] [.int v3] g3 P) : SW sc m_X3_measure (d + 1) rc rs 4 [some (.ref r0), some (.int l1), none] [] h P := by
  refine sw_aload_n dX3_measure_4 rfl ?_
  refine sw_iload_n dX3_measure_5 rfl ?_
  refine sw_cV (M := m_X3_measure) dX3_measure_6 lv_X3_84 hm3 hr3 rfl (by decide) rfl rfl rfl (Nat.le_of_ble_eq_true rfl) (fun _ _ => rfl) rfl ?_
  show SW sc m_X3_measure _ _ _ 9 [some (.ref r0), some (.int l1), none] [.int v3] g3 P
  exact sw_goto dX3_measure_9 (by decide) (sw_fg [true, true, false] rfl (k))
theorem b_X3_measure_12 {r0 : Nat} {l1 : Int32} {l2 : Int32} (kt : ¬ l2 = 2 → SW sc m_X3_measure d rc rs 23 [none, none, none] [.int l1, .ref r0] h P) (kf : l2 = 2 → SW sc m_X3_measure d rc rs 19 [none, none, none] [.int l1, .ref r0] h P) : SW sc m_X3_measure d rc rs 12 [some (.ref r0), some (.int l1), some (.int l2)] [] h P := by
  refine sw_aload_n dX3_measure_12 rfl ?_
  refine sw_iload_n dX3_measure_13 rfl ?_
  refine sw_iload_n dX3_measure_14 rfl ?_
  refine sw_iconst (v := 2) dX3_measure_15 (by decide) ?_
  exact sw_icmp_ne dX3_measure_16 (by decide) (fun q => (sw_fg [true, true, true] rfl (kt q))) (fun q => (sw_fg [true, true, true] rfl (kf q)))
theorem b_X3_measure_19 {q0 : Nat} {s1 : Int32} (k : SW sc m_X3_measure d rc rs 24 [none, none, none] [.int 1, .int s1, .ref q0] h P) : SW sc m_X3_measure d rc rs 19 [none, none, none] [.int s1, .ref q0] h P := by
  refine sw_iconst (v := 1) dX3_measure_19 (by decide) ?_
  exact sw_goto dX3_measure_20 (by decide) (k)
theorem b_X3_measure_23 {q0 : Nat} {s1 : Int32} (k : SW sc m_X3_measure d rc rs 24 [none, none, none] [.int 0, .int s1, .ref q0] h P) : SW sc m_X3_measure d rc rs 23 [none, none, none] [.int s1, .ref q0] h P := by
  refine sw_iconst (v := 0) dX3_measure_23 (by decide) ?_
  exact (k)
theorem b_X3_measure_24 {q0 : Nat} {s1 : Int32} {s2 : Int32} {v1 : Int32} {g1 : ab_H} {fs1 : List Value} (hr1 : (h)[q0]? = some (3, fs1)) (hm1 : MSE m_X3_greatestPart d [.ref q0, .int s1, .int s2] h (some (.int v1)) g1) (k : SW sc m_X3_measure (d + 1) rc rs 27 [none, none, none] [.int v1] g1 P) : SW sc m_X3_measure (d + 1) rc rs 24 [none, none, none] [.int s2, .int s1, .ref q0] h P := by
  refine sw_cV (M := m_X3_measure) dX3_measure_24 lv_X3_104 hm1 hr1 rfl (by decide) rfl rfl rfl (Nat.le_of_ble_eq_true rfl) (fun _ _ => rfl) rfl ?_
  show SW sc m_X3_measure _ _ _ 27 [none, none, none] [.int v1] g1 P
  exact (k)
theorem b_X3_measure_27 {s0 : Int32} (hP : P (.inl (some (.int s0))) h) : SW sc m_X3_measure d rc rs 27 [none, none, none] [.int s0] h P := by
  exact sw_ret (v := (some (.int s0))) dX3_measure_27 rt_i hP
theorem b_X3_leastBy_0 {r0 : Nat} {l1 : Int32} {l2 : Int32} (k : SW sc m_X3_leastBy d rc rs 8 [some (.ref r0), some (.int l1), some (.int l2), some (.int 0), some (.int 0), some (.int 0), none] [] h P) : SW sc m_X3_leastBy d rc rs 0 [some (.ref r0), some (.int l1), some (.int l2), none, none, none, none] [] h P := by
  refine sw_iconst (v := 0) dX3_leastBy_0 (by decide) ?_
  refine sw_istore_n dX3_leastBy_1 (by decide) rfl ?_
  show SW sc m_X3_leastBy _ _ _ 2 [some (.ref r0), some (.int l1), some (.int l2), some (.int 0), none, none, none] [] h P
  refine sw_iconst (v := 0) dX3_leastBy_2 (by decide) ?_
  refine sw_istore dX3_leastBy_3 (by decide) rfl ?_
  show SW sc m_X3_leastBy _ _ _ 5 [some (.ref r0), some (.int l1), some (.int l2), some (.int 0), some (.int 0), none, none] [] h P
  refine sw_iconst (v := 0) dX3_leastBy_5 (by decide) ?_
  refine sw_istore dX3_leastBy_6 (by decide) rfl ?_
  show SW sc m_X3_leastBy _ _ _ 8 [some (.ref r0), some (.int l1), some (.int l2), some (.int 0), some (.int 0), some (.int 0), none] [] h P
  exact (k)
theorem b_X3_leastBy_8 {r0 : Nat} {l1 : Int32} {l2 : Int32} {l3 : Int32} {l4 : Int32} {l5 : Int32} {fs3 : List Value} {x3 : Int32} (hc3 : (h)[r0]? = some (3, fs3)) (hv3 : fs3[2]? = some (.int x3)) (kt : x3 ≤ l5 → SW sc m_X3_leastBy d rc rs 79 [none, none, none, none, some (.int l4), none, none] [] h P) (kf : ¬ (x3 ≤ l5) → SW sc m_X3_leastBy d rc rs 17 [some (.ref r0), some (.int l1), some (.int l2), some (.int l3), some (.int l4), some (.int l5), none] [] h P) : SW sc m_X3_leastBy d rc rs 8 [some (.ref r0), some (.int l1), some (.int l2), some (.int l3), some (.int l4), some (.int l5), none] [] h P := by
  refine sw_iload dX3_leastBy_8 rfl ?_
  refine sw_aload_n dX3_leastBy_10 rfl ?_
  refine sw_getf dX3_leastBy_11 lf_X3_18 hc3 hv3 ?_
  exact sw_icmp_ge dX3_leastBy_14 (by decide) (fun q => (sw_fg [true, true, true, true, false, true, false] rfl (kt q))) (fun q => (kf q))
theorem b_X3_leastBy_17 {r0 : Nat} {l1 : Int32} {l2 : Int32} {l3 : Int32} {l4 : Int32} {l5 : Int32} {v3 : Int32} {g3 : ab_H} (hm3 : MSE m_X9_holds d [.int l1, .int l5] h (some (.int v3)) g3) (kt : v3 = 0 → SW sc m_X3_leastBy (d + 1) rc rs 73 [some (.ref r0), some (.int l1), some (.int l2), some (.int l3), some (.int l4), some (.int l5), none] [] g3 P) (kf : ¬ (v3 = 0) → SW sc m_X3_leastBy (d + 1) rc rs 26 [some (.ref r0), some (.int l1), some (.int l2), some (.int l3), some (.int l4), some (.int l5), none] [] g3 P) : SW sc m_X3_leastBy (d + 1) rc rs 17 [some (.ref r0), some (.int l1), some (.int l2), some (.int l3), some (.int l4), some (.int l5), none] [] h P := by
  refine sw_iload_n dX3_leastBy_17 rfl ?_
  refine sw_iload dX3_leastBy_18 rfl ?_
  refine sw_cS (M := m_X3_leastBy) dX3_leastBy_20 ls_X3_50 hm3 rfl rfl (Nat.le_of_ble_eq_true rfl) (fun _ _ => rfl) rfl ?_
  show SW sc m_X3_leastBy _ _ _ 23 [some (.ref r0), some (.int l1), some (.int l2), some (.int l3), some (.int l4), some (.int l5), none] [.int v3] g3 P
  exact sw_if_eq dX3_leastBy_23 (by decide) (fun q => (kt q)) (fun q => (kf q))
theorem b_X3_leastBy_26 {r0 : Nat} {l1 : Int32} {l2 : Int32} {l3 : Int32} {l4 : Int32} {l5 : Int32} {v4 : Int32} {g4 : ab_H} {fs4 : List Value} (hr4 : (h)[r0]? = some (3, fs4)) (hm4 : MSE m_X3_measure d [.ref r0, .int l5, .int l2] h (some (.int v4)) g4) (kt : l4 = 0 → SW sc m_X3_leastBy (d + 1) rc rs 46 [some (.ref r0), some (.int l1), some (.int l2), none, none, some (.int l5), some (.int v4)] [] g4 P) (kf : ¬ (l4 = 0) → SW sc m_X3_leastBy (d + 1) rc rs 40 [some (.ref r0), some (.int l1), some (.int l2), some (.int l3), some (.int l4), some (.int l5), some (.int v4)] [] g4 P) : SW sc m_X3_leastBy (d + 1) rc rs 26 [some (.ref r0), some (.int l1), some (.int l2), some (.int l3), some (.int l4), some (.int l5), none] [] h P := by
  refine sw_aload_n dX3_leastBy_26 rfl ?_
  refine sw_iload dX3_leastBy_27 rfl ?_
  refine sw_iload_n dX3_leastBy_29 rfl ?_
  refine sw_cV (M := m_X3_leastBy) dX3_leastBy_30 lv_X3_108 hm4 hr4 rfl (by decide) rfl rfl rfl (Nat.le_of_ble_eq_true rfl) (fun _ _ => rfl) rfl ?_
  show SW sc m_X3_leastBy _ _ _ 33 [some (.ref r0), some (.int l1), some (.int l2), some (.int l3), some (.int l4), some (.int l5), none] [.int v4] g4 P
  refine sw_istore dX3_leastBy_33 (by decide) rfl ?_
  show SW sc m_X3_leastBy _ _ _ 35 [some (.ref r0), some (.int l1), some (.int l2), some (.int l3), some (.int l4), some (.int l5), some (.int v4)] [] g4 P
  refine sw_iload dX3_leastBy_35 rfl ?_
  exact sw_if_eq dX3_leastBy_37 (by decide) (fun q => (sw_fg [false, false, false, true, true, false, false] rfl (kt q))) (fun q => (kf q))
theorem b_X3_leastBy_40 {r0 : Nat} {l1 : Int32} {l2 : Int32} {l3 : Int32} {l4 : Int32} {l5 : Int32} {l6 : Int32} (kt : l3 ≤ l6 → SW sc m_X3_leastBy d rc rs 58 [some (.ref r0), some (.int l1), some (.int l2), some (.int l3), some (.int l4), some (.int l5), some (.int l6)] [] h P) (kf : ¬ (l3 ≤ l6) → SW sc m_X3_leastBy d rc rs 46 [some (.ref r0), some (.int l1), some (.int l2), none, none, some (.int l5), some (.int l6)] [] h P) : SW sc m_X3_leastBy d rc rs 40 [some (.ref r0), some (.int l1), some (.int l2), some (.int l3), some (.int l4), some (.int l5), some (.int l6)] [] h P := by
  refine sw_iload dX3_leastBy_40 rfl ?_
  refine sw_iload_n dX3_leastBy_42 rfl ?_
  exact sw_icmp_ge dX3_leastBy_43 (by decide) (fun q => (kt q)) (fun q => (sw_fg [false, false, false, true, true, false, false] rfl (kf q)))
theorem b_X3_leastBy_46 {r0 : Nat} {l1 : Int32} {l2 : Int32} {l5 : Int32} {l6 : Int32} (k : SW sc m_X3_leastBy d rc rs 73 [some (.ref r0), some (.int l1), some (.int l2), some (.int l6), some (.int (1 <<< (l5 &&& 31))), some (.int l5), none] [] h P) : SW sc m_X3_leastBy d rc rs 46 [some (.ref r0), some (.int l1), some (.int l2), none, none, some (.int l5), some (.int l6)] [] h P := by
  refine sw_iload dX3_leastBy_46 rfl ?_
  refine sw_istore_n dX3_leastBy_48 (by decide) rfl ?_
  show SW sc m_X3_leastBy _ _ _ 49 [some (.ref r0), some (.int l1), some (.int l2), some (.int l6), none, some (.int l5), some (.int l6)] [] h P
  refine sw_iconst (v := 1) dX3_leastBy_49 (by decide) ?_
  refine sw_iload dX3_leastBy_50 rfl ?_
  refine sw_ishl dX3_leastBy_52 ?_
  refine sw_istore dX3_leastBy_53 (by decide) rfl ?_
  show SW sc m_X3_leastBy _ _ _ 55 [some (.ref r0), some (.int l1), some (.int l2), some (.int l6), some (.int (1 <<< (l5 &&& 31))), some (.int l5), some (.int l6)] [] h P
  exact sw_goto dX3_leastBy_55 (by decide) (sw_fg [false, false, false, false, false, false, true] rfl (k))
theorem b_X3_leastBy_58 {r0 : Nat} {l1 : Int32} {l2 : Int32} {l3 : Int32} {l4 : Int32} {l5 : Int32} {l6 : Int32} (kt : ¬ l6 = l3 → SW sc m_X3_leastBy d rc rs 73 [some (.ref r0), some (.int l1), some (.int l2), some (.int l3), some (.int l4), some (.int l5), none] [] h P) (kf : l6 = l3 → SW sc m_X3_leastBy d rc rs 64 [some (.ref r0), some (.int l1), some (.int l2), some (.int l3), some (.int l4), some (.int l5), none] [] h P) : SW sc m_X3_leastBy d rc rs 58 [some (.ref r0), some (.int l1), some (.int l2), some (.int l3), some (.int l4), some (.int l5), some (.int l6)] [] h P := by
  refine sw_iload dX3_leastBy_58 rfl ?_
  refine sw_iload_n dX3_leastBy_60 rfl ?_
  exact sw_icmp_ne dX3_leastBy_61 (by decide) (fun q => (sw_fg [false, false, false, false, false, false, true] rfl (kt q))) (fun q => (sw_fg [false, false, false, false, false, false, true] rfl (kf q)))
theorem b_X3_leastBy_64 {r0 : Nat} {l1 : Int32} {l2 : Int32} {l3 : Int32} {l4 : Int32} {l5 : Int32} (k : SW sc m_X3_leastBy d rc rs 73 [some (.ref r0), some (.int l1), some (.int l2), some (.int l3), some (.int (l4 ||| (1 <<< (l5 &&& 31)))), some (.int l5), none] [] h P) : SW sc m_X3_leastBy d rc rs 64 [some (.ref r0), some (.int l1), some (.int l2), some (.int l3), some (.int l4), some (.int l5), none] [] h P := by
  refine sw_iload dX3_leastBy_64 rfl ?_
  refine sw_iconst (v := 1) dX3_leastBy_66 (by decide) ?_
  refine sw_iload dX3_leastBy_67 rfl ?_
  refine sw_ishl dX3_leastBy_69 ?_
  refine sw_ior dX3_leastBy_70 ?_
  refine sw_istore dX3_leastBy_71 (by decide) rfl ?_
  show SW sc m_X3_leastBy _ _ _ 73 [some (.ref r0), some (.int l1), some (.int l2), some (.int l3), some (.int (l4 ||| (1 <<< (l5 &&& 31)))), some (.int l5), none] [] h P
  exact (k)
theorem b_X3_leastBy_73 {r0 : Nat} {l1 : Int32} {l2 : Int32} {l3 : Int32} {l4 : Int32} {l5 : Int32} (k : SW sc m_X3_leastBy d rc rs 8 [some (.ref r0), some (.int l1), some (.int l2), some (.int l3), some (.int l4), some (.int (l5 + 1)), none] [] h P) : SW sc m_X3_leastBy d rc rs 73 [some (.ref r0), some (.int l1), some (.int l2), some (.int l3), some (.int l4), some (.int l5), none] [] h P := by
  refine sw_iinc (v := l5 + 1) dX3_leastBy_73 rfl rfl (by decide) rfl ?_
  show SW sc m_X3_leastBy _ _ _ 76 [some (.ref r0), some (.int l1), some (.int l2), some (.int l3), some (.int l4), some (.int (l5 + 1)), none] [] h P
  exact sw_goto dX3_leastBy_76 (by decide) (k)
theorem b_X3_leastBy_79 {l4 : Int32} (hP : P (.inl (some (.int l4))) h) : SW sc m_X3_leastBy d rc rs 79 [none, none, none, none, some (.int l4), none, none] [] h P := by
  refine sw_iload dX3_leastBy_79 rfl ?_
  exact sw_ret (v := (some (.int l4))) dX3_leastBy_81 rt_i hP
theorem b_X4_forget_0 {r0 : Nat} {fs3 : List Value} (hc3 : (h)[r0]? = some (4, fs3)) (hk3 : 1 < fs3.length) (hP : P (.inl none) ((h).set r0 (4, fs3.set 1 (.int 0)))) : SW sc m_X4_forget d rc rs 0 [some (.ref r0)] [] h P := by
  refine sw_aload_n dX4_forget_0 rfl ?_
  refine sw_iconst (v := 0) dX4_forget_1 (by decide) ?_
  refine sw_putf dX4_forget_2 lp_X4_15 hc3 hk3 (fun _ _ => ⟨rfl, rfl⟩) ?_
  exact sw_ret (v := none) dX4_forget_5 rt_v hP
theorem b_X4_numberOf_0 {r0 : Nat} {l1 : Int32} (k : SW sc m_X4_numberOf d rc rs 2 [some (.ref r0), some (.int l1), some (.int 0)] [] h P) : SW sc m_X4_numberOf d rc rs 0 [some (.ref r0), some (.int l1), none] [] h P := by
  refine sw_iconst (v := 0) dX4_numberOf_0 (by decide) ?_
  refine sw_istore_n dX4_numberOf_1 (by decide) rfl ?_
  show SW sc m_X4_numberOf _ _ _ 2 [some (.ref r0), some (.int l1), some (.int 0)] [] h P
  exact (k)
theorem b_X4_numberOf_2 {r0 : Nat} {l1 : Int32} {l2 : Int32} {fs3 : List Value} {x3 : Int32} (hc3 : (h)[r0]? = some (4, fs3)) (hv3 : fs3[1]? = some (.int x3)) (kt : x3 ≤ l2 → SW sc m_X4_numberOf d rc rs 34 [some (.ref r0), some (.int l1), none] [] h P) (kf : ¬ (x3 ≤ l2) → SW sc m_X4_numberOf d rc rs 10 [some (.ref r0), some (.int l1), some (.int l2)] [] h P) : SW sc m_X4_numberOf d rc rs 2 [some (.ref r0), some (.int l1), some (.int l2)] [] h P := by
  refine sw_iload_n dX4_numberOf_2 rfl ?_
  refine sw_aload_n dX4_numberOf_3 rfl ?_
  refine sw_getf dX4_numberOf_4 lf_X4_15 hc3 hv3 ?_
  exact sw_icmp_ge dX4_numberOf_7 (by decide) (fun q => (sw_fg [false, false, true] rfl (kt q))) (fun q => (kf q))
theorem b_X4_numberOf_10 {r0 : Nat} {l1 : Int32} {l2 : Int32} (kt : 10 ≤ l2 → SW sc m_X4_numberOf d rc rs 34 [some (.ref r0), some (.int l1), none] [] h P) (kf : ¬ (10 ≤ l2) → SW sc m_X4_numberOf d rc rs 16 [some (.ref r0), some (.int l1), some (.int l2)] [] h P) : SW sc m_X4_numberOf d rc rs 10 [some (.ref r0), some (.int l1), some (.int l2)] [] h P := by
  refine sw_iload_n dX4_numberOf_10 rfl ?_
  refine sw_bipush (v := 10) dX4_numberOf_11 (by decide) ?_
  exact sw_icmp_ge dX4_numberOf_13 (by decide) (fun q => (sw_fg [false, false, true] rfl (kt q))) (fun q => (kf q))
theorem b_X4_numberOf_16 {r0 : Nat} {l1 : Int32} {l2 : Int32} {fs2 : List Value} {a2 : Nat} {vs4 : List Value} {x4 : Int32} (hc2 : (h)[r0]? = some (4, fs2)) (hv2 : fs2[0]? = some (.ref a2)) (hc4 : (h)[a2]? = some (100, vs4)) (ho4 : ¬ l2 < 0) (hi4 : vs4[l2.toNatClampNeg]? = some (.int x4)) (kt : ¬ x4 = l1 → SW sc m_X4_numberOf d rc rs 28 [some (.ref r0), some (.int l1), some (.int l2)] [] h P) (kf : x4 = l1 → SW sc m_X4_numberOf d rc rs 26 [none, none, some (.int l2)] [] h P) : SW sc m_X4_numberOf d rc rs 16 [some (.ref r0), some (.int l1), some (.int l2)] [] h P := by
  refine sw_aload_n dX4_numberOf_16 rfl ?_
  refine sw_getf dX4_numberOf_17 lf_X4_9 hc2 hv2 ?_
  refine sw_iload_n dX4_numberOf_20 rfl ?_
  refine sw_iald dX4_numberOf_21 hc4 ho4 hi4 ?_
  refine sw_iload_n dX4_numberOf_22 rfl ?_
  exact sw_icmp_ne dX4_numberOf_23 (by decide) (fun q => (kt q)) (fun q => (sw_fg [true, true, false] rfl (kf q)))
theorem b_X4_numberOf_26 {l2 : Int32} (hP : P (.inl (some (.int l2))) h) : SW sc m_X4_numberOf d rc rs 26 [none, none, some (.int l2)] [] h P := by
  refine sw_iload_n dX4_numberOf_26 rfl ?_
  exact sw_ret (v := (some (.int l2))) dX4_numberOf_27 rt_i hP
theorem b_X4_numberOf_28 {r0 : Nat} {l1 : Int32} {l2 : Int32} (k : SW sc m_X4_numberOf d rc rs 2 [some (.ref r0), some (.int l1), some (.int (l2 + 1))] [] h P) : SW sc m_X4_numberOf d rc rs 28 [some (.ref r0), some (.int l1), some (.int l2)] [] h P := by
  refine sw_iinc (v := l2 + 1) dX4_numberOf_28 rfl rfl (by decide) rfl ?_
  show SW sc m_X4_numberOf _ _ _ 31 [some (.ref r0), some (.int l1), some (.int (l2 + 1))] [] h P
  exact sw_goto dX4_numberOf_31 (by decide) (k)
theorem b_X4_numberOf_34 {r0 : Nat} {l1 : Int32} {fs2 : List Value} {x2 : Int32} (hc2 : (h)[r0]? = some (4, fs2)) (hv2 : fs2[1]? = some (.int x2)) (kt : x2 < 10 → SW sc m_X4_numberOf d rc rs 45 [some (.ref r0), some (.int l1), none] [] h P) (kf : ¬ (x2 < 10) → SW sc m_X4_numberOf d rc rs 43 [none, none, none] [] h P) : SW sc m_X4_numberOf d rc rs 34 [some (.ref r0), some (.int l1), none] [] h P := by
  refine sw_aload_n dX4_numberOf_34 rfl ?_
  refine sw_getf dX4_numberOf_35 lf_X4_15 hc2 hv2 ?_
  refine sw_bipush (v := 10) dX4_numberOf_38 (by decide) ?_
  exact sw_icmp_lt dX4_numberOf_40 (by decide) (fun q => (kt q)) (fun q => (sw_fg [true, true, false] rfl (kf q)))
theorem b_X4_numberOf_43  (hP : P (.inl (some (.int (-1)))) h) : SW sc m_X4_numberOf d rc rs 43 [none, none, none] [] h P := by
  refine sw_iconst (v := (-1)) dX4_numberOf_43 (by decide) ?_
  exact sw_ret (v := (some (.int (-1)))) dX4_numberOf_44 rt_i hP
theorem b_X4_numberOf_45 {r0 : Nat} {l1 : Int32} {fs2 : List Value} {a2 : Nat} {fs4 : List Value} {x4 : Int32} {vs6 : List Value} {fs9 : List Value} {x9 : Int32} {fs12 : List Value} {fs14 : List Value} {x14 : Int32} (hc2 : (h)[r0]? = some (4, fs2)) (hv2 : fs2[0]? = some (.ref a2)) (hc4 : (h)[r0]? = some (4, fs4)) (hv4 : fs4[1]? = some (.int x4)) (hc6 : (h)[a2]? = some (100, vs6)) (ho6 : ¬ x4 < 0) (hl6 : x4.toNatClampNeg < vs6.length) (hc9 : ((h).set a2 (100, vs6.set x4.toNatClampNeg (.int l1)))[r0]? = some (4, fs9)) (hv9 : fs9[1]? = some (.int x9)) (hc12 : ((h).set a2 (100, vs6.set x4.toNatClampNeg (.int l1)))[r0]? = some (4, fs12)) (hk12 : 1 < fs12.length) (hc14 : (((h).set a2 (100, vs6.set x4.toNatClampNeg (.int l1))).set r0 (4, fs12.set 1 (.int (x9 + 1))))[r0]? = some (4, fs14)) (hv14 : fs14[1]? = some (.int x14)) (hP : P (.inl (some (.int (x14 - 1)))) (((h).set a2 (100, vs6.set x4.toNatClampNeg (.int l1))).set r0 (4, fs12.set 1 (.int (x9 + 1))))) : SW sc m_X4_numberOf d rc rs 45 [some (.ref r0), some (.int l1), none] [] h P := by
  refine sw_aload_n dX4_numberOf_45 rfl ?_
  refine sw_getf dX4_numberOf_46 lf_X4_9 hc2 hv2 ?_
  refine sw_aload_n dX4_numberOf_49 rfl ?_
  refine sw_getf dX4_numberOf_50 lf_X4_15 hc4 hv4 ?_
  refine sw_iload_n dX4_numberOf_53 rfl ?_
  refine sw_iast dX4_numberOf_54 hc6 ho6 hl6 ?_
  refine sw_aload_n dX4_numberOf_55 rfl ?_
  refine sw_dup dX4_numberOf_56 (fun _ _ => rfl) ?_
  refine sw_getf dX4_numberOf_57 lf_X4_15 hc9 hv9 ?_
  refine sw_iconst (v := 1) dX4_numberOf_60 (by decide) ?_
  refine sw_iadd dX4_numberOf_61 ?_
  refine sw_putf dX4_numberOf_62 lp_X4_15 hc12 hk12 (fun _ _ => ⟨rfl, rfl⟩) ?_
  refine sw_aload_n dX4_numberOf_65 rfl ?_
  refine sw_getf dX4_numberOf_66 lf_X4_15 hc14 hv14 ?_
  refine sw_iconst (v := 1) dX4_numberOf_69 (by decide) ?_
  refine sw_isub dX4_numberOf_70 ?_
  exact sw_ret (v := (some (.int (x14 - 1)))) dX4_numberOf_71 rt_i hP
theorem b_X5_forget_0 {r0 : Nat} {fs3 : List Value} {fs6 : List Value} (hc3 : (h)[r0]? = some (5, fs3)) (hk3 : 3 < fs3.length) (hc6 : ((h).set r0 (5, fs3.set 3 (.int 0)))[r0]? = some (5, fs6)) (hk6 : 4 < fs6.length) (hP : P (.inl none) (((h).set r0 (5, fs3.set 3 (.int 0))).set r0 (5, fs6.set 4 (.int 0)))) : SW sc m_X5_forget d rc rs 0 [some (.ref r0)] [] h P := by
  refine sw_aload_n dX5_forget_0 rfl ?_
  refine sw_iconst (v := 0) dX5_forget_1 (by decide) ?_
  refine sw_putf dX5_forget_2 lp_X5_19 hc3 hk3 (fun _ _ => ⟨rfl, rfl⟩) ?_
  refine sw_aload_n dX5_forget_5 rfl ?_
  refine sw_iconst (v := 0) dX5_forget_6 (by decide) ?_
  refine sw_putf dX5_forget_7 lp_X5_23 hc6 hk6 (fun _ _ => ⟨rfl, rfl⟩) ?_
  exact sw_ret (v := none) dX5_forget_10 rt_v hP
theorem b_X5_record_0 {r0 : Nat} {r1 : Nat} {fs2 : List Value} {x2 : Int32} {v4 : Int32} {g4 : ab_H} {fs8 : List Value} {a8 : Nat} {vs10 : List Value} {a10 : Nat} {g11 : ab_H} {fs11 : List Value} {v17 : Int32} {g17 : ab_H} {fs18 : List Value} {fs21 : List Value} {x21 : Int32} {v25 : Int32} {g25 : ab_H} {fs26 : List Value} {fs28 : List Value} {a28 : Nat} {vs30 : List Value} {a30 : Nat} (hc2 : (h)[r0]? = some (5, fs2)) (hv2 : fs2[2]? = some (.int x2)) (hm4 : MSE m_J9_floorMod_7cf53 d [.int x2, .int 8] h (some (.int v4)) g4) (hc8 : (g4)[r0]? = some (5, fs8)) (hv8 : fs8[0]? = some (.ref a8)) (hc10 : (g4)[a8]? = some (104, vs10)) (ho10 : ¬ v4 < 0) (hi10 : vs10[v4.toNatClampNeg]? = some (.ref a10)) (hr11 : (g4)[r1]? = some (3, fs11)) (hm11 : MSE m_X3_saveTo d [.ref r1, .ref a10] g4 none g11) (hm17 : MSE m_J9_floorMod_7cf53 d [.int (v4 + 1), .int 8] g11 (some (.int v17)) g17) (hc18 : (g17)[r0]? = some (5, fs18)) (hk18 : 2 < fs18.length) (hc21 : ((g17).set r0 (5, fs18.set 2 (.int v17)))[r0]? = some (5, fs21)) (hv21 : fs21[3]? = some (.int x21)) (hm25 : MSE m_J9_min_7cf53 d [.int (x21 + 1), .int 8] ((g17).set r0 (5, fs18.set 2 (.int v17))) (some (.int v25)) g25) (hc26 : (g25)[r0]? = some (5, fs26)) (hk26 : 3 < fs26.length) (hc28 : ((g25).set r0 (5, fs26.set 3 (.int v25)))[r0]? = some (5, fs28)) (hv28 : fs28[0]? = some (.ref a28)) (hc30 : ((g25).set r0 (5, fs26.set 3 (.int v25)))[a28]? = some (104, vs30)) (ho30 : ¬ v4 < 0) (hi30 : vs30[v4.toNatClampNeg]? = some (.ref a30)) (hP : P (.inl (some (.ref a30))) ((g25).set r0 (5, fs26.set 3 (.int v25)))) : SW sc m_X5_record (d + 1) rc rs 0 [some (.ref r0), some (.ref r1), none] [] h P := by
  refine sw_aload_n dX5_record_0 rfl ?_
  refine sw_getf dX5_record_1 lf_X5_26 hc2 hv2 ?_
  refine sw_bipush (v := 8) dX5_record_4 (by decide) ?_
  refine sw_cS (M := m_X5_record) dX5_record_6 ls_X5_29 hm4 rfl rfl (Nat.le_of_ble_eq_true rfl) (fun _ _ => rfl) rfl ?_
  show SW sc m_X5_record _ _ _ 9 [some (.ref r0), some (.ref r1), none] [.int v4] g4 P
  refine sw_istore_n dX5_record_9 (by decide) rfl ?_
  show SW sc m_X5_record _ _ _ 10 [some (.ref r0), some (.ref r1), some (.int v4)] [] g4 P
  refine sw_aload_n dX5_record_10 rfl ?_
  refine sw_aload_n dX5_record_11 rfl ?_
  refine sw_getf dX5_record_12 lf_X5_11 hc8 hv8 ?_
  refine sw_iload_n dX5_record_15 rfl ?_
  refine sw_aald dX5_record_16 hc10 ho10 hi10 ?_
  refine sw_cV (M := m_X5_record) dX5_record_17 lv_X5_35 hm11 hr11 rfl (by decide) rfl rfl rfl (Nat.le_of_ble_eq_true rfl) (fun _ _ => rfl) rfl ?_
  show SW sc m_X5_record _ _ _ 20 [some (.ref r0), some (.ref r1), some (.int v4)] [] g11 P
  refine sw_aload_n dX5_record_20 rfl ?_
  refine sw_iload_n dX5_record_21 rfl ?_
  refine sw_iconst (v := 1) dX5_record_22 (by decide) ?_
  refine sw_iadd dX5_record_23 ?_
  refine sw_bipush (v := 8) dX5_record_24 (by decide) ?_
  refine sw_cS (M := m_X5_record) dX5_record_26 ls_X5_29 hm17 rfl rfl (Nat.le_of_ble_eq_true rfl) (fun _ _ => rfl) rfl ?_
  show SW sc m_X5_record _ _ _ 29 [some (.ref r0), some (.ref r1), some (.int v4)] [.int v17, .ref r0] g17 P
  refine sw_putf dX5_record_29 lp_X5_26 hc18 hk18 (fun _ _ => ⟨rfl, rfl⟩) ?_
  refine sw_aload_n dX5_record_32 rfl ?_
  refine sw_aload_n dX5_record_33 rfl ?_
  refine sw_getf dX5_record_34 lf_X5_19 hc21 hv21 ?_
  refine sw_iconst (v := 1) dX5_record_37 (by decide) ?_
  refine sw_iadd dX5_record_38 ?_
  refine sw_bipush (v := 8) dX5_record_39 (by decide) ?_
  refine sw_cS (M := m_X5_record) dX5_record_41 ls_X5_41 hm25 rfl rfl (Nat.le_of_ble_eq_true rfl) (fun _ _ => rfl) rfl ?_
  show SW sc m_X5_record _ _ _ 44 [some (.ref r0), some (.ref r1), some (.int v4)] [.int v25, .ref r0] g25 P
  refine sw_putf dX5_record_44 lp_X5_19 hc26 hk26 (fun _ _ => ⟨rfl, rfl⟩) ?_
  refine sw_aload_n dX5_record_47 rfl ?_
  refine sw_getf dX5_record_48 lf_X5_11 hc28 hv28 ?_
  refine sw_iload_n dX5_record_51 rfl ?_
  refine sw_aald dX5_record_52 hc30 ho30 hi30 ?_
  exact sw_ret (v := (some (.ref a30))) dX5_record_53 rt_a hP
theorem b_X5_takeBack_0 {r0 : Nat} {r1 : Nat} {fs2 : List Value} {x2 : Int32} (hc2 : (h)[r0]? = some (5, fs2)) (hv2 : fs2[3]? = some (.int x2)) (kt : ¬ x2 = 0 → SW sc m_X5_takeBack d rc rs 9 [some (.ref r0), some (.ref r1)] [] h P) (kf : x2 = 0 → SW sc m_X5_takeBack d rc rs 7 [none, none] [] h P) : SW sc m_X5_takeBack d rc rs 0 [some (.ref r0), some (.ref r1)] [] h P := by
  refine sw_aload_n dX5_takeBack_0 rfl ?_
  refine sw_getf dX5_takeBack_1 lf_X5_19 hc2 hv2 ?_
  exact sw_if_ne dX5_takeBack_4 (by decide) (fun q => (kt q)) (fun q => (sw_fg [true, true] rfl (kf q)))
theorem b_X5_takeBack_7  (hP : P (.inl (some (.int 0))) h) : SW sc m_X5_takeBack d rc rs 7 [none, none] [] h P := by
  refine sw_iconst (v := 0) dX5_takeBack_7 (by decide) ?_
  exact sw_ret (v := (some (.int 0))) dX5_takeBack_8 (rt_n (by decide)) hP
theorem b_X5_takeBack_9 {r0 : Nat} {r1 : Nat} {fs3 : List Value} {x3 : Int32} {v7 : Int32} {g7 : ab_H} {fs8 : List Value} {fs11 : List Value} {x11 : Int32} {fs14 : List Value} {fs17 : List Value} {a17 : Nat} {fs19 : List Value} {x19 : Int32} {vs20 : List Value} {a20 : Nat} {g21 : ab_H} {fs21 : List Value} (hc3 : (h)[r0]? = some (5, fs3)) (hv3 : fs3[2]? = some (.int x3)) (hm7 : MSE m_J9_floorMod_7cf53 d [.int (x3 - 1), .int 8] h (some (.int v7)) g7) (hc8 : (g7)[r0]? = some (5, fs8)) (hk8 : 2 < fs8.length) (hc11 : ((g7).set r0 (5, fs8.set 2 (.int v7)))[r0]? = some (5, fs11)) (hv11 : fs11[3]? = some (.int x11)) (hc14 : ((g7).set r0 (5, fs8.set 2 (.int v7)))[r0]? = some (5, fs14)) (hk14 : 3 < fs14.length) (hc17 : (((g7).set r0 (5, fs8.set 2 (.int v7))).set r0 (5, fs14.set 3 (.int (x11 - 1))))[r0]? = some (5, fs17)) (hv17 : fs17[0]? = some (.ref a17)) (hc19 : (((g7).set r0 (5, fs8.set 2 (.int v7))).set r0 (5, fs14.set 3 (.int (x11 - 1))))[r0]? = some (5, fs19)) (hv19 : fs19[2]? = some (.int x19)) (hc20 : (((g7).set r0 (5, fs8.set 2 (.int v7))).set r0 (5, fs14.set 3 (.int (x11 - 1))))[a17]? = some (104, vs20)) (ho20 : ¬ x19 < 0) (hi20 : vs20[x19.toNatClampNeg]? = some (.ref a20)) (hr21 : (((g7).set r0 (5, fs8.set 2 (.int v7))).set r0 (5, fs14.set 3 (.int (x11 - 1))))[r1]? = some (3, fs21)) (hm21 : MSE m_X3_bringFrom d [.ref r1, .ref a20] (((g7).set r0 (5, fs8.set 2 (.int v7))).set r0 (5, fs14.set 3 (.int (x11 - 1)))) none g21) (hP : P (.inl (some (.int 1))) g21) : SW sc m_X5_takeBack (d + 1) rc rs 9 [some (.ref r0), some (.ref r1)] [] h P := by
  refine sw_aload_n dX5_takeBack_9 rfl ?_
  refine sw_aload_n dX5_takeBack_10 rfl ?_
  refine sw_getf dX5_takeBack_11 lf_X5_26 hc3 hv3 ?_
  refine sw_iconst (v := 1) dX5_takeBack_14 (by decide) ?_
  refine sw_isub dX5_takeBack_15 ?_
  refine sw_bipush (v := 8) dX5_takeBack_16 (by decide) ?_
  refine sw_cS (M := m_X5_takeBack) dX5_takeBack_18 ls_X5_29 hm7 rfl rfl (Nat.le_of_ble_eq_true rfl) (fun _ _ => rfl) rfl ?_
  show SW sc m_X5_takeBack _ _ _ 21 [some (.ref r0), some (.ref r1)] [.int v7, .ref r0] g7 P
  refine sw_putf dX5_takeBack_21 lp_X5_26 hc8 hk8 (fun _ _ => ⟨rfl, rfl⟩) ?_
  refine sw_aload_n dX5_takeBack_24 rfl ?_
  refine sw_dup dX5_takeBack_25 (fun _ _ => rfl) ?_
  refine sw_getf dX5_takeBack_26 lf_X5_19 hc11 hv11 ?_
  refine sw_iconst (v := 1) dX5_takeBack_29 (by decide) ?_
  refine sw_isub dX5_takeBack_30 ?_
  refine sw_putf dX5_takeBack_31 lp_X5_19 hc14 hk14 (fun _ _ => ⟨rfl, rfl⟩) ?_
  refine sw_aload_n dX5_takeBack_34 rfl ?_
  refine sw_aload_n dX5_takeBack_35 rfl ?_
  refine sw_getf dX5_takeBack_36 lf_X5_11 hc17 hv17 ?_
  refine sw_aload_n dX5_takeBack_39 rfl ?_
  refine sw_getf dX5_takeBack_40 lf_X5_26 hc19 hv19 ?_
  refine sw_aald dX5_takeBack_43 hc20 ho20 hi20 ?_
  refine sw_cV (M := m_X5_takeBack) dX5_takeBack_44 lv_X5_44 hm21 hr21 rfl (by decide) rfl rfl rfl (Nat.le_of_ble_eq_true rfl) (fun _ _ => rfl) rfl ?_
  show SW sc m_X5_takeBack _ _ _ 47 [some (.ref r0), some (.ref r1)] [] g21 P
  refine sw_iconst (v := 1) dX5_takeBack_47 (by decide) ?_
  exact sw_ret (v := (some (.int 1))) dX5_takeBack_48 (rt_n (by decide)) hP
theorem b_X5_hasSnapshot_0 {r0 : Nat} {l1 : Int32} (kt : l1 < 0 → SW sc m_X5_hasSnapshot d rc rs 24 [none, none] [] h P) (kf : ¬ (l1 < 0) → SW sc m_X5_hasSnapshot d rc rs 4 [some (.ref r0), some (.int l1)] [] h P) : SW sc m_X5_hasSnapshot d rc rs 0 [some (.ref r0), some (.int l1)] [] h P := by
  refine sw_iload_n dX5_hasSnapshot_0 rfl ?_
  exact sw_if_lt dX5_hasSnapshot_1 (by decide) (fun q => (sw_fg [true, true] rfl (kt q))) (fun q => (kf q))
theorem b_X5_hasSnapshot_4 {r0 : Nat} {l1 : Int32} (kt : 3 ≤ l1 → SW sc m_X5_hasSnapshot d rc rs 24 [none, none] [] h P) (kf : ¬ (3 ≤ l1) → SW sc m_X5_hasSnapshot d rc rs 9 [some (.ref r0), some (.int l1)] [] h P) : SW sc m_X5_hasSnapshot d rc rs 4 [some (.ref r0), some (.int l1)] [] h P := by
  refine sw_iload_n dX5_hasSnapshot_4 rfl ?_
  refine sw_iconst (v := 3) dX5_hasSnapshot_5 (by decide) ?_
  exact sw_icmp_ge dX5_hasSnapshot_6 (by decide) (fun q => (sw_fg [true, true] rfl (kt q))) (fun q => (kf q))
theorem b_X5_hasSnapshot_9 {r0 : Nat} {l1 : Int32} {fs2 : List Value} {x2 : Int32} {v4 : Int32} {g4 : ab_H} (hc2 : (h)[r0]? = some (5, fs2)) (hv2 : fs2[4]? = some (.int x2)) (hm4 : MSE m_X9_holds d [.int x2, .int l1] h (some (.int v4)) g4) (kt : v4 = 0 → SW sc m_X5_hasSnapshot (d + 1) rc rs 24 [none, none] [] g4 P) (kf : ¬ (v4 = 0) → SW sc m_X5_hasSnapshot (d + 1) rc rs 20 [none, none] [] g4 P) : SW sc m_X5_hasSnapshot (d + 1) rc rs 9 [some (.ref r0), some (.int l1)] [] h P := by
  refine sw_aload_n dX5_hasSnapshot_9 rfl ?_
  refine sw_getf dX5_hasSnapshot_10 lf_X5_23 hc2 hv2 ?_
  refine sw_iload_n dX5_hasSnapshot_13 rfl ?_
  refine sw_cS (M := m_X5_hasSnapshot) dX5_hasSnapshot_14 ls_X5_47 hm4 rfl rfl (Nat.le_of_ble_eq_true rfl) (fun _ _ => rfl) rfl ?_
  show SW sc m_X5_hasSnapshot _ _ _ 17 [some (.ref r0), some (.int l1)] [.int v4] g4 P
  exact sw_if_eq dX5_hasSnapshot_17 (by decide) (fun q => (sw_fg [true, true] rfl (kt q))) (fun q => (sw_fg [true, true] rfl (kf q)))
theorem b_X5_hasSnapshot_20  (k : SW sc m_X5_hasSnapshot d rc rs 25 [none, none] [.int 1] h P) : SW sc m_X5_hasSnapshot d rc rs 20 [none, none] [] h P := by
  refine sw_iconst (v := 1) dX5_hasSnapshot_20 (by decide) ?_
  exact sw_goto dX5_hasSnapshot_21 (by decide) (k)
theorem b_X5_hasSnapshot_24  (k : SW sc m_X5_hasSnapshot d rc rs 25 [none, none] [.int 0] h P) : SW sc m_X5_hasSnapshot d rc rs 24 [none, none] [] h P := by
  refine sw_iconst (v := 0) dX5_hasSnapshot_24 (by decide) ?_
  exact (k)
theorem b_X5_hasSnapshot_25 {s0 : Int32} (hz1 : narrow .boolean (.int s0) = .int s0) (hP : P (.inl (some (.int s0))) h) : SW sc m_X5_hasSnapshot d rc rs 25 [none, none] [.int s0] h P := by
  exact sw_ret (v := (some (.int s0))) dX5_hasSnapshot_25 (rt_n hz1) hP
theorem b_X5_keepSnapshot_0 {r0 : Nat} {l1 : Int32} {r2 : Nat} (kt : l1 < 0 → SW sc m_X5_keepSnapshot d rc rs 31 [none, none, none] [] h P) (kf : ¬ (l1 < 0) → SW sc m_X5_keepSnapshot d rc rs 4 [some (.ref r0), some (.int l1), some (.ref r2)] [] h P) : SW sc m_X5_keepSnapshot d rc rs 0 [some (.ref r0), some (.int l1), some (.ref r2)] [] h P := by
  refine sw_iload_n dX5_keepSnapshot_0 rfl ?_
  exact sw_if_lt dX5_keepSnapshot_1 (by decide) (fun q => (sw_fg [true, true, true] rfl (kt q))) (fun q => (kf q))
theorem b_X5_keepSnapshot_4 {r0 : Nat} {l1 : Int32} {r2 : Nat} (kt : 3 ≤ l1 → SW sc m_X5_keepSnapshot d rc rs 31 [none, none, none] [] h P) (kf : ¬ (3 ≤ l1) → SW sc m_X5_keepSnapshot d rc rs 9 [some (.ref r0), some (.int l1), some (.ref r2)] [] h P) : SW sc m_X5_keepSnapshot d rc rs 4 [some (.ref r0), some (.int l1), some (.ref r2)] [] h P := by
  refine sw_iload_n dX5_keepSnapshot_4 rfl ?_
  refine sw_iconst (v := 3) dX5_keepSnapshot_5 (by decide) ?_
  exact sw_icmp_ge dX5_keepSnapshot_6 (by decide) (fun q => (sw_fg [true, true, true] rfl (kt q))) (fun q => (kf q))
theorem b_X5_keepSnapshot_9 {r0 : Nat} {l1 : Int32} {r2 : Nat} {fs3 : List Value} {a3 : Nat} {vs5 : List Value} {a5 : Nat} {g6 : ab_H} {fs6 : List Value} {fs9 : List Value} {x9 : Int32} {fs14 : List Value} (hc3 : (h)[r0]? = some (5, fs3)) (hv3 : fs3[1]? = some (.ref a3)) (hc5 : (h)[a3]? = some (104, vs5)) (ho5 : ¬ l1 < 0) (hi5 : vs5[l1.toNatClampNeg]? = some (.ref a5)) (hr6 : (h)[r2]? = some (3, fs6)) (hm6 : MSE m_X3_saveTo d [.ref r2, .ref a5] h none g6) (hc9 : (g6)[r0]? = some (5, fs9)) (hv9 : fs9[4]? = some (.int x9)) (hc14 : (g6)[r0]? = some (5, fs14)) (hk14 : 4 < fs14.length) (k : SW sc m_X5_keepSnapshot (d + 1) rc rs 31 [none, none, none] [] ((g6).set r0 (5, fs14.set 4 (.int (x9 ||| (1 <<< (l1 &&& 31)))))) P) : SW sc m_X5_keepSnapshot (d + 1) rc rs 9 [some (.ref r0), some (.int l1), some (.ref r2)] [] h P := by
  refine sw_aload_n dX5_keepSnapshot_9 rfl ?_
  refine sw_aload_n dX5_keepSnapshot_10 rfl ?_
  refine sw_getf dX5_keepSnapshot_11 lf_X5_16 hc3 hv3 ?_
  refine sw_iload_n dX5_keepSnapshot_14 rfl ?_
  refine sw_aald dX5_keepSnapshot_15 hc5 ho5 hi5 ?_
  refine sw_cV (M := m_X5_keepSnapshot) dX5_keepSnapshot_16 lv_X5_35 hm6 hr6 rfl (by decide) rfl rfl rfl (Nat.le_of_ble_eq_true rfl) (fun _ _ => rfl) rfl ?_
  show SW sc m_X5_keepSnapshot _ _ _ 19 [some (.ref r0), some (.int l1), some (.ref r2)] [] g6 P
  refine sw_aload_n dX5_keepSnapshot_19 rfl ?_
  refine sw_dup dX5_keepSnapshot_20 (fun _ _ => rfl) ?_
  refine sw_getf dX5_keepSnapshot_21 lf_X5_23 hc9 hv9 ?_
  refine sw_iconst (v := 1) dX5_keepSnapshot_24 (by decide) ?_
  refine sw_iload_n dX5_keepSnapshot_25 rfl ?_
  refine sw_ishl dX5_keepSnapshot_26 ?_
  refine sw_ior dX5_keepSnapshot_27 ?_
  refine sw_putf dX5_keepSnapshot_28 lp_X5_23 hc14 hk14 (fun _ _ => ⟨rfl, rfl⟩) ?_
  exact (sw_fg [true, true, true] rfl (k))
theorem b_X5_keepSnapshot_31  (hP : P (.inl none) h) : SW sc m_X5_keepSnapshot d rc rs 31 [none, none, none] [] h P := by
  exact sw_ret (v := none) dX5_keepSnapshot_31 rt_v hP
theorem b_X5_bringSnapshot_0 {r0 : Nat} {l1 : Int32} {r2 : Nat} {v3 : Int32} {g3 : ab_H} {fs3 : List Value} (hr3 : (h)[r0]? = some (5, fs3)) (hm3 : MSE m_X5_hasSnapshot d [.ref r0, .int l1] h (some (.int v3)) g3) (kt : v3 = 0 → SW sc m_X5_bringSnapshot (d + 1) rc rs 18 [none, none, none] [] g3 P) (kf : ¬ (v3 = 0) → SW sc m_X5_bringSnapshot (d + 1) rc rs 8 [some (.ref r0), some (.int l1), some (.ref r2)] [] g3 P) : SW sc m_X5_bringSnapshot (d + 1) rc rs 0 [some (.ref r0), some (.int l1), some (.ref r2)] [] h P := by
  refine sw_aload_n dX5_bringSnapshot_0 rfl ?_
  refine sw_iload_n dX5_bringSnapshot_1 rfl ?_
  refine sw_cV (M := m_X5_bringSnapshot) dX5_bringSnapshot_2 lv_X5_51 hm3 hr3 rfl (by decide) rfl rfl rfl (Nat.le_of_ble_eq_true rfl) (fun _ _ => rfl) rfl ?_
  show SW sc m_X5_bringSnapshot _ _ _ 5 [some (.ref r0), some (.int l1), some (.ref r2)] [.int v3] g3 P
  exact sw_if_eq dX5_bringSnapshot_5 (by decide) (fun q => (sw_fg [true, true, true] rfl (kt q))) (fun q => (kf q))
theorem b_X5_bringSnapshot_8 {r0 : Nat} {l1 : Int32} {r2 : Nat} {fs3 : List Value} {a3 : Nat} {vs5 : List Value} {a5 : Nat} {g6 : ab_H} {fs6 : List Value} (hc3 : (h)[r0]? = some (5, fs3)) (hv3 : fs3[1]? = some (.ref a3)) (hc5 : (h)[a3]? = some (104, vs5)) (ho5 : ¬ l1 < 0) (hi5 : vs5[l1.toNatClampNeg]? = some (.ref a5)) (hr6 : (h)[r2]? = some (3, fs6)) (hm6 : MSE m_X3_bringFrom d [.ref r2, .ref a5] h none g6) (k : SW sc m_X5_bringSnapshot (d + 1) rc rs 18 [none, none, none] [] g6 P) : SW sc m_X5_bringSnapshot (d + 1) rc rs 8 [some (.ref r0), some (.int l1), some (.ref r2)] [] h P := by
  refine sw_aload_n dX5_bringSnapshot_8 rfl ?_
  refine sw_aload_n dX5_bringSnapshot_9 rfl ?_
  refine sw_getf dX5_bringSnapshot_10 lf_X5_16 hc3 hv3 ?_
  refine sw_iload_n dX5_bringSnapshot_13 rfl ?_
  refine sw_aald dX5_bringSnapshot_14 hc5 ho5 hi5 ?_
  refine sw_cV (M := m_X5_bringSnapshot) dX5_bringSnapshot_15 lv_X5_44 hm6 hr6 rfl (by decide) rfl rfl rfl (Nat.le_of_ble_eq_true rfl) (fun _ _ => rfl) rfl ?_
  show SW sc m_X5_bringSnapshot _ _ _ 18 [some (.ref r0), some (.int l1), some (.ref r2)] [] g6 P
  exact (sw_fg [true, true, true] rfl (k))
theorem b_X5_bringSnapshot_18  (hP : P (.inl none) h) : SW sc m_X5_bringSnapshot d rc rs 18 [none, none, none] [] h P := by
  exact sw_ret (v := none) dX5_bringSnapshot_18 rt_v hP
theorem b_X6_readText_0 {r0 : Nat} {fs3 : List Value} {fs6 : List Value} {g8 : ab_H} {fs8 : List Value} {v10 : Int32} {g10 : ab_H} {fs10 : List Value} (hc3 : (h)[r0]? = some (6, fs3)) (hk3 : 4 < fs3.length) (hc6 : ((h).set r0 (6, fs3.set 4 (.int 0)))[r0]? = some (6, fs6)) (hk6 : 7 < fs6.length) (hr8 : (((h).set r0 (6, fs3.set 4 (.int 0))).set r0 (6, fs6.set 7 (.int 0)))[r0]? = some (6, fs8)) (hm8 : MSE m_X6_advance d [.ref r0] (((h).set r0 (6, fs3.set 4 (.int 0))).set r0 (6, fs6.set 7 (.int 0))) none g8) (hr10 : (g8)[r0]? = some (6, fs10)) (hm10 : MSE m_X6_readVertices d [.ref r0] g8 (some (.int v10)) g10) (k : SW sc m_X6_readText (d + 1) rc rs 21 [some (.ref r0), some (.int v10), some (.int 0)] [] g10 P) : SW sc m_X6_readText (d + 1) rc rs 0 [some (.ref r0), none, none] [] h P := by
  refine sw_aload_n dX6_readText_0 rfl ?_
  refine sw_iconst (v := 0) dX6_readText_1 (by decide) ?_
  refine sw_putf dX6_readText_2 lp_X6_32 hc3 hk3 (fun _ _ => ⟨rfl, rfl⟩) ?_
  refine sw_aload_n dX6_readText_5 rfl ?_
  refine sw_iconst (v := 0) dX6_readText_6 (by decide) ?_
  refine sw_putf dX6_readText_7 lp_X6_36 hc6 hk6 (fun _ _ => ⟨rfl, rfl⟩) ?_
  refine sw_aload_n dX6_readText_10 rfl ?_
  refine sw_cV (M := m_X6_readText) dX6_readText_11 lv_X6_39 hm8 hr8 rfl (by decide) rfl rfl rfl (Nat.le_of_ble_eq_true rfl) (fun _ _ => rfl) rfl ?_
  show SW sc m_X6_readText _ _ _ 14 [some (.ref r0), none, none] [] g8 P
  refine sw_aload_n dX6_readText_14 rfl ?_
  refine sw_cV (M := m_X6_readText) dX6_readText_15 lv_X6_42 hm10 hr10 rfl (by decide) rfl rfl rfl (Nat.le_of_ble_eq_true rfl) (fun _ _ => rfl) rfl ?_
  show SW sc m_X6_readText _ _ _ 18 [some (.ref r0), none, none] [.int v10] g10 P
  refine sw_istore_n dX6_readText_18 (by decide) rfl ?_
  show SW sc m_X6_readText _ _ _ 19 [some (.ref r0), some (.int v10), none] [] g10 P
  refine sw_iconst (v := 0) dX6_readText_19 (by decide) ?_
  refine sw_istore_n dX6_readText_20 (by decide) rfl ?_
  show SW sc m_X6_readText _ _ _ 21 [some (.ref r0), some (.int v10), some (.int 0)] [] g10 P
  exact (k)
theorem b_X6_readText_21 {r0 : Nat} {l1 : Int32} {l2 : Int32} (kt : 400 ≤ l2 → SW sc m_X6_readText d rc rs 65 [some (.ref r0), none, none] [] h P) (kf : ¬ (400 ≤ l2) → SW sc m_X6_readText d rc rs 28 [some (.ref r0), some (.int l1), some (.int l2)] [] h P) : SW sc m_X6_readText d rc rs 21 [some (.ref r0), some (.int l1), some (.int l2)] [] h P := by
  refine sw_iload_n dX6_readText_21 rfl ?_
  refine sw_sipush (v := 400) dX6_readText_22 (by decide) ?_
  exact sw_icmp_ge dX6_readText_25 (by decide) (fun q => (sw_fg [false, true, true] rfl (kt q))) (fun q => (kf q))
theorem b_X6_readText_28 {r0 : Nat} {l1 : Int32} {l2 : Int32} (kt : l1 = 0 → SW sc m_X6_readText d rc rs 65 [some (.ref r0), none, none] [] h P) (kf : ¬ (l1 = 0) → SW sc m_X6_readText d rc rs 32 [some (.ref r0), none, some (.int l2)] [] h P) : SW sc m_X6_readText d rc rs 28 [some (.ref r0), some (.int l1), some (.int l2)] [] h P := by
  refine sw_iload_n dX6_readText_28 rfl ?_
  exact sw_if_eq dX6_readText_29 (by decide) (fun q => (sw_fg [false, true, true] rfl (kt q))) (fun q => (sw_fg [false, true, false] rfl (kf q)))
theorem b_X6_readText_32 {r0 : Nat} {l2 : Int32} {fs2 : List Value} {x2 : Int32} (hc2 : (h)[r0]? = some (6, fs2)) (hv2 : fs2[5]? = some (.int x2)) (kt : x2 = 0 → SW sc m_X6_readText d rc rs 65 [some (.ref r0), none, none] [] h P) (kf : ¬ (x2 = 0) → SW sc m_X6_readText d rc rs 39 [some (.ref r0), none, some (.int l2)] [] h P) : SW sc m_X6_readText d rc rs 32 [some (.ref r0), none, some (.int l2)] [] h P := by
  refine sw_aload_n dX6_readText_32 rfl ?_
  refine sw_getf dX6_readText_33 lf_X6_46 hc2 hv2 ?_
  exact sw_if_eq dX6_readText_36 (by decide) (fun q => (sw_fg [false, false, true] rfl (kt q))) (fun q => (kf q))
theorem b_X6_readText_39 {r0 : Nat} {l2 : Int32} {v2 : Int32} {g2 : ab_H} {fs2 : List Value} (hr2 : (h)[r0]? = some (6, fs2)) (hm2 : MSE m_X6_readStatement d [.ref r0] h (some (.int v2)) g2) (kt : v2 = 0 → SW sc m_X6_readText (d + 1) rc rs 57 [some (.ref r0), none, some (.int l2)] [] g2 P) (kf : ¬ (v2 = 0) → SW sc m_X6_readText (d + 1) rc rs 46 [some (.ref r0), none, some (.int l2)] [] g2 P) : SW sc m_X6_readText (d + 1) rc rs 39 [some (.ref r0), none, some (.int l2)] [] h P := by
  refine sw_aload_n dX6_readText_39 rfl ?_
  refine sw_cV (M := m_X6_readText) dX6_readText_40 lv_X6_49 hm2 hr2 rfl (by decide) rfl rfl rfl (Nat.le_of_ble_eq_true rfl) (fun _ _ => rfl) rfl ?_
  show SW sc m_X6_readText _ _ _ 43 [some (.ref r0), none, some (.int l2)] [.int v2] g2 P
  exact sw_if_eq dX6_readText_43 (by decide) (fun q => (kt q)) (fun q => (kf q))
theorem b_X6_readText_46 {r0 : Nat} {l2 : Int32} {v2 : Int32} {g2 : ab_H} {fs2 : List Value} (hr2 : (h)[r0]? = some (6, fs2)) (hm2 : MSE m_X6_endStatement d [.ref r0] h (some (.int v2)) g2) (kt : v2 = 0 → SW sc m_X6_readText (d + 1) rc rs 57 [some (.ref r0), none, some (.int l2)] [] g2 P) (kf : ¬ (v2 = 0) → SW sc m_X6_readText (d + 1) rc rs 53 [some (.ref r0), none, some (.int l2)] [] g2 P) : SW sc m_X6_readText (d + 1) rc rs 46 [some (.ref r0), none, some (.int l2)] [] h P := by
  refine sw_aload_n dX6_readText_46 rfl ?_
  refine sw_cV (M := m_X6_readText) dX6_readText_47 lv_X6_52 hm2 hr2 rfl (by decide) rfl rfl rfl (Nat.le_of_ble_eq_true rfl) (fun _ _ => rfl) rfl ?_
  show SW sc m_X6_readText _ _ _ 50 [some (.ref r0), none, some (.int l2)] [.int v2] g2 P
  exact sw_if_eq dX6_readText_50 (by decide) (fun q => (kt q)) (fun q => (kf q))
theorem b_X6_readText_53 {r0 : Nat} {l2 : Int32} (k : SW sc m_X6_readText d rc rs 58 [some (.ref r0), none, some (.int l2)] [.int 1] h P) : SW sc m_X6_readText d rc rs 53 [some (.ref r0), none, some (.int l2)] [] h P := by
  refine sw_iconst (v := 1) dX6_readText_53 (by decide) ?_
  exact sw_goto dX6_readText_54 (by decide) (k)
theorem b_X6_readText_57 {r0 : Nat} {l2 : Int32} (k : SW sc m_X6_readText d rc rs 58 [some (.ref r0), none, some (.int l2)] [.int 0] h P) : SW sc m_X6_readText d rc rs 57 [some (.ref r0), none, some (.int l2)] [] h P := by
  refine sw_iconst (v := 0) dX6_readText_57 (by decide) ?_
  exact (k)
theorem b_X6_readText_58 {r0 : Nat} {l2 : Int32} {s0 : Int32} (k : SW sc m_X6_readText d rc rs 21 [some (.ref r0), some (.int s0), some (.int (l2 + 1))] [] h P) : SW sc m_X6_readText d rc rs 58 [some (.ref r0), none, some (.int l2)] [.int s0] h P := by
  refine sw_istore_n dX6_readText_58 (by decide) rfl ?_
  show SW sc m_X6_readText _ _ _ 59 [some (.ref r0), some (.int s0), some (.int l2)] [] h P
  refine sw_iinc (v := l2 + 1) dX6_readText_59 rfl rfl (by decide) rfl ?_
  show SW sc m_X6_readText _ _ _ 62 [some (.ref r0), some (.int s0), some (.int (l2 + 1))] [] h P
  exact sw_goto dX6_readText_62 (by decide) (k)
theorem b_X6_readText_65 {r0 : Nat} {fs2 : List Value} {x2 : Int32} (hc2 : (h)[r0]? = some (6, fs2)) (hv2 : fs2[7]? = some (.int x2)) (hP : P (.inl (some (.int x2))) h) : SW sc m_X6_readText d rc rs 65 [some (.ref r0), none, none] [] h P := by
  refine sw_aload_n dX6_readText_65 rfl ?_
  refine sw_getf dX6_readText_66 lf_X6_36 hc2 hv2 ?_
  exact sw_ret (v := (some (.int x2))) dX6_readText_69 rt_i hP
theorem b_X6_readVertices_0 {r0 : Nat} {v3 : Int32} {g3 : ab_H} {fs3 : List Value} (hr3 : (h)[r0]? = some (6, fs3)) (hm3 : MSE m_X6_isWord d [.ref r0, .retAddr 0] h (some (.int v3)) g3) (kt : ¬ v3 = 0 → SW sc m_X6_readVertices (d + 1) rc rs 15 [some (.ref r0)] [] g3 P) (kf : v3 = 0 → SW sc m_X6_readVertices (d + 1) rc rs 9 [some (.ref r0)] [] g3 P) : SW sc m_X6_readVertices (d + 1) rc rs 0 [some (.ref r0)] [] h P := by
  refine sw_aload_n dX6_readVertices_0 rfl ?_
  refine sw_ldc (t := 0) dX6_readVertices_1 sr_X6_55 rfl ?_
  refine sw_cV (M := m_X6_readVertices) dX6_readVertices_3 lv_X6_57 hm3 hr3 rfl (by decide) rfl rfl rfl (Nat.le_of_ble_eq_true rfl) (fun _ _ => rfl) rfl ?_
  show SW sc m_X6_readVertices _ _ _ 6 [some (.ref r0)] [.int v3] g3 P
  exact sw_if_ne dX6_readVertices_6 (by decide) (fun q => (kt q)) (fun q => (kf q))
theorem b_X6_readVertices_9 {r0 : Nat} {v3 : Int32} {g3 : ab_H} {fs3 : List Value} (hr3 : (h)[r0]? = some (6, fs3)) (hm3 : MSE m_X6_fail d [.ref r0, .int 1] h (some (.int v3)) g3) (hz4 : narrow .boolean (.int v3) = .int v3) (hP : P (.inl (some (.int v3))) g3) : SW sc m_X6_readVertices (d + 1) rc rs 9 [some (.ref r0)] [] h P := by
  refine sw_aload_n dX6_readVertices_9 rfl ?_
  refine sw_iconst (v := 1) dX6_readVertices_10 (by decide) ?_
  refine sw_cV (M := m_X6_readVertices) dX6_readVertices_11 lv_X6_61 hm3 hr3 rfl (by decide) rfl rfl rfl (Nat.le_of_ble_eq_true rfl) (fun _ _ => rfl) rfl ?_
  show SW sc m_X6_readVertices _ _ _ 14 [some (.ref r0)] [.int v3] g3 P
  exact sw_ret (v := (some (.int v3))) dX6_readVertices_14 (rt_n hz4) hP
theorem b_X6_readVertices_15 {r0 : Nat} {g2 : ab_H} {fs2 : List Value} {v6 : Int32} {g6 : ab_H} {fs6 : List Value} (hr2 : (h)[r0]? = some (6, fs2)) (hm2 : MSE m_X6_advance d [.ref r0] h none g2) (hr6 : (g2)[r0]? = some (6, fs6)) (hm6 : MSE m_X6_needNumber d [.ref r0, .int 1, .int 10] g2 (some (.int v6)) g6) (kt : ¬ v6 = 0 → SW sc m_X6_readVertices (d + 1) rc rs 31 [some (.ref r0)] [] g6 P) (kf : v6 = 0 → SW sc m_X6_readVertices (d + 1) rc rs 29 [none] [] g6 P) : SW sc m_X6_readVertices (d + 1) rc rs 15 [some (.ref r0)] [] h P := by
  refine sw_aload_n dX6_readVertices_15 rfl ?_
  refine sw_cV (M := m_X6_readVertices) dX6_readVertices_16 lv_X6_39 hm2 hr2 rfl (by decide) rfl rfl rfl (Nat.le_of_ble_eq_true rfl) (fun _ _ => rfl) rfl ?_
  show SW sc m_X6_readVertices _ _ _ 19 [some (.ref r0)] [] g2 P
  refine sw_aload_n dX6_readVertices_19 rfl ?_
  refine sw_iconst (v := 1) dX6_readVertices_20 (by decide) ?_
  refine sw_bipush (v := 10) dX6_readVertices_21 (by decide) ?_
  refine sw_cV (M := m_X6_readVertices) dX6_readVertices_23 lv_X6_65 hm6 hr6 rfl (by decide) rfl rfl rfl (Nat.le_of_ble_eq_true rfl) (fun _ _ => rfl) rfl ?_
  show SW sc m_X6_readVertices _ _ _ 26 [some (.ref r0)] [.int v6] g6 P
  exact sw_if_ne dX6_readVertices_26 (by decide) (fun q => (kt q)) (fun q => (sw_fg [true] rfl (kf q)))
theorem b_X6_readVertices_29  (hP : P (.inl (some (.int 0))) h) : SW sc m_X6_readVertices d rc rs 29 [none] [] h P := by
  refine sw_iconst (v := 0) dX6_readVertices_29 (by decide) ?_
  exact sw_ret (v := (some (.int 0))) dX6_readVertices_30 (rt_n (by decide)) hP
theorem b_X6_readVertices_31 {r0 : Nat} {fs2 : List Value} {a2 : Nat} {fs4 : List Value} {x4 : Int32} {g5 : ab_H} {fs5 : List Value} {g7 : ab_H} {fs7 : List Value} {v9 : Int32} {g9 : ab_H} {fs9 : List Value} (hc2 : (h)[r0]? = some (6, fs2)) (hv2 : fs2[1]? = some (.ref a2)) (hc4 : (h)[r0]? = some (6, fs4)) (hv4 : fs4[6]? = some (.int x4)) (hr5 : (h)[a2]? = some (3, fs5)) (hm5 : MSE m_X3_clear d [.ref a2, .int x4] h none g5) (hr7 : (g5)[r0]? = some (6, fs7)) (hm7 : MSE m_X6_advance d [.ref r0] g5 none g7) (hr9 : (g7)[r0]? = some (6, fs9)) (hm9 : MSE m_X6_endStatement d [.ref r0] g7 (some (.int v9)) g9) (hz10 : narrow .boolean (.int v9) = .int v9) (hP : P (.inl (some (.int v9))) g9) : SW sc m_X6_readVertices (d + 1) rc rs 31 [some (.ref r0)] [] h P := by
  refine sw_aload_n dX6_readVertices_31 rfl ?_
  refine sw_getf dX6_readVertices_32 lf_X6_21 hc2 hv2 ?_
  refine sw_aload_n dX6_readVertices_35 rfl ?_
  refine sw_getf dX6_readVertices_36 lf_X6_69 hc4 hv4 ?_
  refine sw_cV (M := m_X6_readVertices) dX6_readVertices_39 lv_X6_72 hm5 hr5 rfl (by decide) rfl rfl rfl (Nat.le_of_ble_eq_true rfl) (fun _ _ => rfl) rfl ?_
  show SW sc m_X6_readVertices _ _ _ 42 [some (.ref r0)] [] g5 P
  refine sw_aload_n dX6_readVertices_42 rfl ?_
  refine sw_cV (M := m_X6_readVertices) dX6_readVertices_43 lv_X6_39 hm7 hr7 rfl (by decide) rfl rfl rfl (Nat.le_of_ble_eq_true rfl) (fun _ _ => rfl) rfl ?_
  show SW sc m_X6_readVertices _ _ _ 46 [some (.ref r0)] [] g7 P
  refine sw_aload_n dX6_readVertices_46 rfl ?_
  refine sw_cV (M := m_X6_readVertices) dX6_readVertices_47 lv_X6_52 hm9 hr9 rfl (by decide) rfl rfl rfl (Nat.le_of_ble_eq_true rfl) (fun _ _ => rfl) rfl ?_
  show SW sc m_X6_readVertices _ _ _ 50 [some (.ref r0)] [.int v9] g9 P
  exact sw_ret (v := (some (.int v9))) dX6_readVertices_50 (rt_n hz10) hP
theorem b_X6_readStatement_0 {r0 : Nat} {v3 : Int32} {g3 : ab_H} {fs3 : List Value} (hr3 : (h)[r0]? = some (6, fs3)) (hm3 : MSE m_X6_isWord d [.ref r0, .retAddr 1] h (some (.int v3)) g3) (kt : v3 = 0 → SW sc m_X6_readStatement (d + 1) rc rs 16 [some (.ref r0)] [] g3 P) (kf : ¬ (v3 = 0) → SW sc m_X6_readStatement (d + 1) rc rs 9 [some (.ref r0)] [] g3 P) : SW sc m_X6_readStatement (d + 1) rc rs 0 [some (.ref r0)] [] h P := by
  refine sw_aload_n dX6_readStatement_0 rfl ?_
  refine sw_ldc (t := 1) dX6_readStatement_1 sr_X6_76 rfl ?_
  refine sw_cV (M := m_X6_readStatement) dX6_readStatement_3 lv_X6_57 hm3 hr3 rfl (by decide) rfl rfl rfl (Nat.le_of_ble_eq_true rfl) (fun _ _ => rfl) rfl ?_
  show SW sc m_X6_readStatement _ _ _ 6 [some (.ref r0)] [.int v3] g3 P
  exact sw_if_eq dX6_readStatement_6 (by decide) (fun q => (kt q)) (fun q => (kf q))
theorem b_X6_readStatement_9 {r0 : Nat} {v4 : Int32} {g4 : ab_H} {fs4 : List Value} (hr4 : (h)[r0]? = some (6, fs4)) (hm4 : MSE m_X6_readEdges d [.ref r0, .int 0, .int 1] h (some (.int v4)) g4) (hz5 : narrow .boolean (.int v4) = .int v4) (hP : P (.inl (some (.int v4))) g4) : SW sc m_X6_readStatement (d + 1) rc rs 9 [some (.ref r0)] [] h P := by
  refine sw_aload_n dX6_readStatement_9 rfl ?_
  refine sw_iconst (v := 0) dX6_readStatement_10 (by decide) ?_
  refine sw_iconst (v := 1) dX6_readStatement_11 (by decide) ?_
  refine sw_cV (M := m_X6_readStatement) dX6_readStatement_12 lv_X6_78 hm4 hr4 rfl (by decide) rfl rfl rfl (Nat.le_of_ble_eq_true rfl) (fun _ _ => rfl) rfl ?_
  show SW sc m_X6_readStatement _ _ _ 15 [some (.ref r0)] [.int v4] g4 P
  exact sw_ret (v := (some (.int v4))) dX6_readStatement_15 (rt_n hz5) hP
theorem b_X6_readStatement_16 {r0 : Nat} {v3 : Int32} {g3 : ab_H} {fs3 : List Value} (hr3 : (h)[r0]? = some (6, fs3)) (hm3 : MSE m_X6_isWord d [.ref r0, .retAddr 2] h (some (.int v3)) g3) (kt : v3 = 0 → SW sc m_X6_readStatement (d + 1) rc rs 33 [some (.ref r0)] [] g3 P) (kf : ¬ (v3 = 0) → SW sc m_X6_readStatement (d + 1) rc rs 25 [some (.ref r0)] [] g3 P) : SW sc m_X6_readStatement (d + 1) rc rs 16 [some (.ref r0)] [] h P := by
  refine sw_aload_n dX6_readStatement_16 rfl ?_
  refine sw_ldc (t := 2) dX6_readStatement_17 sr_X6_82 rfl ?_
  refine sw_cV (M := m_X6_readStatement) dX6_readStatement_19 lv_X6_57 hm3 hr3 rfl (by decide) rfl rfl rfl (Nat.le_of_ble_eq_true rfl) (fun _ _ => rfl) rfl ?_
  show SW sc m_X6_readStatement _ _ _ 22 [some (.ref r0)] [.int v3] g3 P
  exact sw_if_eq dX6_readStatement_22 (by decide) (fun q => (kt q)) (fun q => (kf q))
end
