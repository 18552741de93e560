section
variable {sc : Option (List Int32)} {d rc rs : Nat} {h : ab_H} {P : ab_O → ab_H → Prop}
theorem b_X6_readStatement_25 {r0 : Nat} {v4 : Int32} {g4 : ab_H} {fs4 : List Value} (hr4 : (h)[r0]? = some (6, fs4)) (hm4 : MSE m_X6_readEdges d [.ref r0, .int 0, .int 10] h (some (.int v4)) g4) (hz5 : narrow .boolean (.int v4) = .int v4) (hP : P (.inl (some (.int v4))) g4) : SW sc m_X6_readStatement (d + 1) rc rs 25 [some (.ref r0)] [] h P := by
  refine sw_aload_n dX6_readStatement_25 rfl ?_
  refine sw_iconst (v := 0) dX6_readStatement_26 (by decide) ?_
  refine sw_bipush (v := 10) dX6_readStatement_27 (by decide) ?_
  refine sw_cV (M := m_X6_readStatement) dX6_readStatement_29 lv_X6_78 hm4 hr4 rfl (by decide) rfl rfl rfl (Nat.le_of_ble_eq_true rfl) (fun _ _ => rfl) rfl ?_
  show SW sc m_X6_readStatement _ _ _ 32 [some (.ref r0)] [.int v4] g4 P
  exact sw_ret (v := (some (.int v4))) dX6_readStatement_32 (rt_n hz5) hP
theorem b_X6_readStatement_33 {r0 : Nat} {v3 : Int32} {g3 : ab_H} {fs3 : List Value} (hr3 : (h)[r0]? = some (6, fs3)) (hm3 : MSE m_X6_isWord d [.ref r0, .retAddr 3] h (some (.int v3)) g3) (kt : v3 = 0 → SW sc m_X6_readStatement (d + 1) rc rs 50 [some (.ref r0)] [] g3 P) (kf : ¬ (v3 = 0) → SW sc m_X6_readStatement (d + 1) rc rs 42 [some (.ref r0)] [] g3 P) : SW sc m_X6_readStatement (d + 1) rc rs 33 [some (.ref r0)] [] h P := by
  refine sw_aload_n dX6_readStatement_33 rfl ?_
  refine sw_ldc (t := 3) dX6_readStatement_34 sr_X6_84 rfl ?_
  refine sw_cV (M := m_X6_readStatement) dX6_readStatement_36 lv_X6_57 hm3 hr3 rfl (by decide) rfl rfl rfl (Nat.le_of_ble_eq_true rfl) (fun _ _ => rfl) rfl ?_
  show SW sc m_X6_readStatement _ _ _ 39 [some (.ref r0)] [.int v3] g3 P
  exact sw_if_eq dX6_readStatement_39 (by decide) (fun q => (kt q)) (fun q => (kf q))
theorem b_X6_readStatement_42 {r0 : Nat} {v4 : Int32} {g4 : ab_H} {fs4 : List Value} (hr4 : (h)[r0]? = some (6, fs4)) (hm4 : MSE m_X6_readEdges d [.ref r0, .int 1, .int 10] h (some (.int v4)) g4) (hz5 : narrow .boolean (.int v4) = .int v4) (hP : P (.inl (some (.int v4))) g4) : SW sc m_X6_readStatement (d + 1) rc rs 42 [some (.ref r0)] [] h P := by
  refine sw_aload_n dX6_readStatement_42 rfl ?_
  refine sw_iconst (v := 1) dX6_readStatement_43 (by decide) ?_
  refine sw_bipush (v := 10) dX6_readStatement_44 (by decide) ?_
  refine sw_cV (M := m_X6_readStatement) dX6_readStatement_46 lv_X6_78 hm4 hr4 rfl (by decide) rfl rfl rfl (Nat.le_of_ble_eq_true rfl) (fun _ _ => rfl) rfl ?_
  show SW sc m_X6_readStatement _ _ _ 49 [some (.ref r0)] [.int v4] g4 P
  exact sw_ret (v := (some (.int v4))) dX6_readStatement_49 (rt_n hz5) hP
theorem b_X6_readStatement_50 {r0 : Nat} {v3 : Int32} {g3 : ab_H} {fs3 : List Value} (hr3 : (h)[r0]? = some (6, fs3)) (hm3 : MSE m_X6_isWord d [.ref r0, .retAddr 4] h (some (.int v3)) g3) (kt : v3 = 0 → SW sc m_X6_readStatement (d + 1) rc rs 64 [some (.ref r0)] [] g3 P) (kf : ¬ (v3 = 0) → SW sc m_X6_readStatement (d + 1) rc rs 59 [some (.ref r0)] [] g3 P) : SW sc m_X6_readStatement (d + 1) rc rs 50 [some (.ref r0)] [] h P := by
  refine sw_aload_n dX6_readStatement_50 rfl ?_
  refine sw_ldc (t := 4) dX6_readStatement_51 sr_X6_86 rfl ?_
  refine sw_cV (M := m_X6_readStatement) dX6_readStatement_53 lv_X6_57 hm3 hr3 rfl (by decide) rfl rfl rfl (Nat.le_of_ble_eq_true rfl) (fun _ _ => rfl) rfl ?_
  show SW sc m_X6_readStatement _ _ _ 56 [some (.ref r0)] [.int v3] g3 P
  exact sw_if_eq dX6_readStatement_56 (by decide) (fun q => (kt q)) (fun q => (kf q))
theorem b_X6_readStatement_59 {r0 : Nat} {v2 : Int32} {g2 : ab_H} {fs2 : List Value} (hr2 : (h)[r0]? = some (6, fs2)) (hm2 : MSE m_X6_readCode d [.ref r0] h (some (.int v2)) g2) (hz3 : narrow .boolean (.int v2) = .int v2) (hP : P (.inl (some (.int v2))) g2) : SW sc m_X6_readStatement (d + 1) rc rs 59 [some (.ref r0)] [] h P := by
  refine sw_aload_n dX6_readStatement_59 rfl ?_
  refine sw_cV (M := m_X6_readStatement) dX6_readStatement_60 lv_X6_88 hm2 hr2 rfl (by decide) rfl rfl rfl (Nat.le_of_ble_eq_true rfl) (fun _ _ => rfl) rfl ?_
  show SW sc m_X6_readStatement _ _ _ 63 [some (.ref r0)] [.int v2] g2 P
  exact sw_ret (v := (some (.int v2))) dX6_readStatement_63 (rt_n hz3) hP
theorem b_X6_readStatement_64 {r0 : Nat} {v3 : Int32} {g3 : ab_H} {fs3 : List Value} (hr3 : (h)[r0]? = some (6, fs3)) (hm3 : MSE m_X6_isWord d [.ref r0, .retAddr 5] h (some (.int v3)) g3) (kt : v3 = 0 → SW sc m_X6_readStatement (d + 1) rc rs 80 [some (.ref r0)] [] g3 P) (kf : ¬ (v3 = 0) → SW sc m_X6_readStatement (d + 1) rc rs 73 [some (.ref r0)] [] g3 P) : SW sc m_X6_readStatement (d + 1) rc rs 64 [some (.ref r0)] [] h P := by
  refine sw_aload_n dX6_readStatement_64 rfl ?_
  refine sw_ldc (t := 5) dX6_readStatement_65 sr_X6_91 rfl ?_
  refine sw_cV (M := m_X6_readStatement) dX6_readStatement_67 lv_X6_57 hm3 hr3 rfl (by decide) rfl rfl rfl (Nat.le_of_ble_eq_true rfl) (fun _ _ => rfl) rfl ?_
  show SW sc m_X6_readStatement _ _ _ 70 [some (.ref r0)] [.int v3] g3 P
  exact sw_if_eq dX6_readStatement_70 (by decide) (fun q => (kt q)) (fun q => (kf q))
theorem b_X6_readStatement_73 {r0 : Nat} {v2 : Int32} {g2 : ab_H} {fs2 : List Value} (hr2 : (h)[r0]? = some (6, fs2)) (hm2 : MSE m_X6_readWeight d [.ref r0] h (some (.int v2)) g2) (k : SW sc m_X6_readStatement (d + 1) rc rs 85 [none] [.int v2] g2 P) : SW sc m_X6_readStatement (d + 1) rc rs 73 [some (.ref r0)] [] h P := by
  refine sw_aload_n dX6_readStatement_73 rfl ?_
  refine sw_cV (M := m_X6_readStatement) dX6_readStatement_74 lv_X6_93 hm2 hr2 rfl (by decide) rfl rfl rfl (Nat.le_of_ble_eq_true rfl) (fun _ _ => rfl) rfl ?_
  show SW sc m_X6_readStatement _ _ _ 77 [some (.ref r0)] [.int v2] g2 P
  exact sw_goto dX6_readStatement_77 (by decide) (sw_fg [true] rfl (k))
theorem b_X6_readStatement_80 {r0 : Nat} {v3 : Int32} {g3 : ab_H} {fs3 : List Value} (hr3 : (h)[r0]? = some (6, fs3)) (hm3 : MSE m_X6_fail d [.ref r0, .int 1] h (some (.int v3)) g3) (k : SW sc m_X6_readStatement (d + 1) rc rs 85 [none] [.int v3] g3 P) : SW sc m_X6_readStatement (d + 1) rc rs 80 [some (.ref r0)] [] h P := by
  refine sw_aload_n dX6_readStatement_80 rfl ?_
  refine sw_iconst (v := 1) dX6_readStatement_81 (by decide) ?_
  refine sw_cV (M := m_X6_readStatement) dX6_readStatement_82 lv_X6_61 hm3 hr3 rfl (by decide) rfl rfl rfl (Nat.le_of_ble_eq_true rfl) (fun _ _ => rfl) rfl ?_
  show SW sc m_X6_readStatement _ _ _ 85 [some (.ref r0)] [.int v3] g3 P
  exact (sw_fg [true] rfl (k))
theorem b_X6_readStatement_85 {s0 : Int32} (hz1 : narrow .boolean (.int s0) = .int s0) (hP : P (.inl (some (.int s0))) h) : SW sc m_X6_readStatement d rc rs 85 [none] [.int s0] h P := by
  exact sw_ret (v := (some (.int s0))) dX6_readStatement_85 (rt_n hz1) hP
theorem b_X6_endStatement_0 {r0 : Nat} {fs2 : List Value} {x2 : Int32} (hc2 : (h)[r0]? = some (6, fs2)) (hv2 : fs2[5]? = some (.int x2)) (kt : x2 = 3 → SW sc m_X6_endStatement d rc rs 14 [some (.ref r0)] [] h P) (kf : ¬ (x2 = 3) → SW sc m_X6_endStatement d rc rs 8 [some (.ref r0)] [] h P) : SW sc m_X6_endStatement d rc rs 0 [some (.ref r0)] [] h P := by
  refine sw_aload_n dX6_endStatement_0 rfl ?_
  refine sw_getf dX6_endStatement_1 lf_X6_46 hc2 hv2 ?_
  refine sw_iconst (v := 3) dX6_endStatement_4 (by decide) ?_
  exact sw_icmp_eq dX6_endStatement_5 (by decide) (fun q => (kt q)) (fun q => (kf q))
theorem b_X6_endStatement_8 {r0 : Nat} {v3 : Int32} {g3 : ab_H} {fs3 : List Value} (hr3 : (h)[r0]? = some (6, fs3)) (hm3 : MSE m_X6_fail d [.ref r0, .int 1] h (some (.int v3)) g3) (hz4 : narrow .boolean (.int v3) = .int v3) (hP : P (.inl (some (.int v3))) g3) : SW sc m_X6_endStatement (d + 1) rc rs 8 [some (.ref r0)] [] h P := by
  refine sw_aload_n dX6_endStatement_8 rfl ?_
  refine sw_iconst (v := 1) dX6_endStatement_9 (by decide) ?_
  refine sw_cV (M := m_X6_endStatement) dX6_endStatement_10 lv_X6_61 hm3 hr3 rfl (by decide) rfl rfl rfl (Nat.le_of_ble_eq_true rfl) (fun _ _ => rfl) rfl ?_
  show SW sc m_X6_endStatement _ _ _ 13 [some (.ref r0)] [.int v3] g3 P
  exact sw_ret (v := (some (.int v3))) dX6_endStatement_13 (rt_n hz4) hP
theorem b_X6_endStatement_14 {r0 : Nat} {g2 : ab_H} {fs2 : List Value} (hr2 : (h)[r0]? = some (6, fs2)) (hm2 : MSE m_X6_advance d [.ref r0] h none g2) (hP : P (.inl (some (.int 1))) g2) : SW sc m_X6_endStatement (d + 1) rc rs 14 [some (.ref r0)] [] h P := by
  refine sw_aload_n dX6_endStatement_14 rfl ?_
  refine sw_cV (M := m_X6_endStatement) dX6_endStatement_15 lv_X6_39 hm2 hr2 rfl (by decide) rfl rfl rfl (Nat.le_of_ble_eq_true rfl) (fun _ _ => rfl) rfl ?_
  show SW sc m_X6_endStatement _ _ _ 18 [some (.ref r0)] [] g2 P
  refine sw_iconst (v := 1) dX6_endStatement_18 (by decide) ?_
  exact sw_ret (v := (some (.int 1))) dX6_endStatement_19 (rt_n (by decide)) hP
theorem b_X6_readEdges_0 {r0 : Nat} {l1 : Int32} {l2 : Int32} {g2 : ab_H} {fs2 : List Value} {fs6 : List Value} {a6 : Nat} {fs7 : List Value} {x7 : Int32} {v10 : Int32} {g10 : ab_H} {fs10 : List Value} (hr2 : (h)[r0]? = some (6, fs2)) (hm2 : MSE m_X6_advance d [.ref r0] h none g2) (hc6 : (g2)[r0]? = some (6, fs6)) (hv6 : fs6[1]? = some (.ref a6)) (hc7 : (g2)[a6]? = some (3, fs7)) (hv7 : fs7[2]? = some (.int x7)) (hr10 : (g2)[r0]? = some (6, fs10)) (hm10 : MSE m_X6_needNumber d [.ref r0, .int 0, .int (x7 - 1)] g2 (some (.int v10)) g10) (kt : ¬ v10 = 0 → SW sc m_X6_readEdges (d + 1) rc rs 23 [some (.ref r0), some (.int l1), some (.int l2), none, none, none] [] g10 P) (kf : v10 = 0 → SW sc m_X6_readEdges (d + 1) rc rs 21 [none, none, none, none, none, none] [] g10 P) : SW sc m_X6_readEdges (d + 1) rc rs 0 [some (.ref r0), some (.int l1), some (.int l2), none, none, none] [] h P := by
  refine sw_aload_n dX6_readEdges_0 rfl ?_
  refine sw_cV (M := m_X6_readEdges) dX6_readEdges_1 lv_X6_39 hm2 hr2 rfl (by decide) rfl rfl rfl (Nat.le_of_ble_eq_true rfl) (fun _ _ => rfl) rfl ?_
  show SW sc m_X6_readEdges _ _ _ 4 [some (.ref r0), some (.int l1), some (.int l2), none, none, none] [] g2 P
  refine sw_aload_n dX6_readEdges_4 rfl ?_
  refine sw_iconst (v := 0) dX6_readEdges_5 (by decide) ?_
  refine sw_aload_n dX6_readEdges_6 rfl ?_
  refine sw_getf dX6_readEdges_7 lf_X6_21 hc6 hv6 ?_
  refine sw_getf dX6_readEdges_10 lf_X6_96 hc7 hv7 ?_
  refine sw_iconst (v := 1) dX6_readEdges_13 (by decide) ?_
  refine sw_isub dX6_readEdges_14 ?_
  refine sw_cV (M := m_X6_readEdges) dX6_readEdges_15 lv_X6_65 hm10 hr10 rfl (by decide) rfl rfl rfl (Nat.le_of_ble_eq_true rfl) (fun _ _ => rfl) rfl ?_
  show SW sc m_X6_readEdges _ _ _ 18 [some (.ref r0), some (.int l1), some (.int l2), none, none, none] [.int v10] g10 P
  exact sw_if_ne dX6_readEdges_18 (by decide) (fun q => (kt q)) (fun q => (sw_fg [true, true, true, false, false, false] rfl (kf q)))
theorem b_X6_readEdges_21  (hP : P (.inl (some (.int 0))) h) : SW sc m_X6_readEdges d rc rs 21 [none, none, none, none, none, none] [] h P := by
  refine sw_iconst (v := 0) dX6_readEdges_21 (by decide) ?_
  exact sw_ret (v := (some (.int 0))) dX6_readEdges_22 (rt_n (by decide)) hP
theorem b_X6_readEdges_23 {r0 : Nat} {l1 : Int32} {l2 : Int32} {fs2 : List Value} {x2 : Int32} {g5 : ab_H} {fs5 : List Value} (hc2 : (h)[r0]? = some (6, fs2)) (hv2 : fs2[6]? = some (.int x2)) (hr5 : (h)[r0]? = some (6, fs5)) (hm5 : MSE m_X6_advance d [.ref r0] h none g5) (k : SW sc m_X6_readEdges (d + 1) rc rs 35 [some (.ref r0), some (.int l1), some (.int l2), some (.int x2), some (.int 0), none] [] g5 P) : SW sc m_X6_readEdges (d + 1) rc rs 23 [some (.ref r0), some (.int l1), some (.int l2), none, none, none] [] h P := by
  refine sw_aload_n dX6_readEdges_23 rfl ?_
  refine sw_getf dX6_readEdges_24 lf_X6_69 hc2 hv2 ?_
  refine sw_istore_n dX6_readEdges_27 (by decide) rfl ?_
  show SW sc m_X6_readEdges _ _ _ 28 [some (.ref r0), some (.int l1), some (.int l2), some (.int x2), none, none] [] h P
  refine sw_aload_n dX6_readEdges_28 rfl ?_
  refine sw_cV (M := m_X6_readEdges) dX6_readEdges_29 lv_X6_39 hm5 hr5 rfl (by decide) rfl rfl rfl (Nat.le_of_ble_eq_true rfl) (fun _ _ => rfl) rfl ?_
  show SW sc m_X6_readEdges _ _ _ 32 [some (.ref r0), some (.int l1), some (.int l2), some (.int x2), none, none] [] g5 P
  refine sw_iconst (v := 0) dX6_readEdges_32 (by decide) ?_
  refine sw_istore dX6_readEdges_33 (by decide) rfl ?_
  show SW sc m_X6_readEdges _ _ _ 35 [some (.ref r0), some (.int l1), some (.int l2), some (.int x2), some (.int 0), none] [] g5 P
  exact (k)
theorem b_X6_readEdges_35 {r0 : Nat} {l1 : Int32} {l2 : Int32} {l3 : Int32} {l4 : Int32} (kt : l2 ≤ l4 → SW sc m_X6_readEdges d rc rs 130 [none, none, none, none, none, none] [] h P) (kf : ¬ (l2 ≤ l4) → SW sc m_X6_readEdges d rc rs 41 [some (.ref r0), some (.int l1), some (.int l2), some (.int l3), some (.int l4), none] [] h P) : SW sc m_X6_readEdges d rc rs 35 [some (.ref r0), some (.int l1), some (.int l2), some (.int l3), some (.int l4), none] [] h P := by
  refine sw_iload dX6_readEdges_35 rfl ?_
  refine sw_iload_n dX6_readEdges_37 rfl ?_
  exact sw_icmp_ge dX6_readEdges_38 (by decide) (fun q => (sw_fg [true, true, true, true, true, false] rfl (kt q))) (fun q => (kf q))
theorem b_X6_readEdges_41 {r0 : Nat} {l1 : Int32} {l2 : Int32} {l3 : Int32} {l4 : Int32} (kt : l4 = 0 → SW sc m_X6_readEdges d rc rs 54 [some (.ref r0), some (.int l1), some (.int l2), some (.int l3), some (.int l4), none] [] h P) (kf : ¬ (l4 = 0) → SW sc m_X6_readEdges d rc rs 46 [some (.ref r0), some (.int l1), some (.int l2), some (.int l3), some (.int l4), none] [] h P) : SW sc m_X6_readEdges d rc rs 41 [some (.ref r0), some (.int l1), some (.int l2), some (.int l3), some (.int l4), none] [] h P := by
  refine sw_iload dX6_readEdges_41 rfl ?_
  exact sw_if_eq dX6_readEdges_43 (by decide) (fun q => (kt q)) (fun q => (kf q))
theorem b_X6_readEdges_46 {r0 : Nat} {l1 : Int32} {l2 : Int32} {l3 : Int32} {l4 : Int32} {fs2 : List Value} {x2 : Int32} (hc2 : (h)[r0]? = some (6, fs2)) (hv2 : fs2[5]? = some (.int x2)) (kt : ¬ x2 = 2 → SW sc m_X6_readEdges d rc rs 130 [none, none, none, none, none, none] [] h P) (kf : x2 = 2 → SW sc m_X6_readEdges d rc rs 54 [some (.ref r0), some (.int l1), some (.int l2), some (.int l3), some (.int l4), none] [] h P) : SW sc m_X6_readEdges d rc rs 46 [some (.ref r0), some (.int l1), some (.int l2), some (.int l3), some (.int l4), none] [] h P := by
  refine sw_aload_n dX6_readEdges_46 rfl ?_
  refine sw_getf dX6_readEdges_47 lf_X6_46 hc2 hv2 ?_
  refine sw_iconst (v := 2) dX6_readEdges_50 (by decide) ?_
  exact sw_icmp_ne dX6_readEdges_51 (by decide) (fun q => (sw_fg [true, true, true, true, true, false] rfl (kt q))) (fun q => (kf q))
theorem b_X6_readEdges_54 {r0 : Nat} {l1 : Int32} {l2 : Int32} {l3 : Int32} {l4 : Int32} {fs4 : List Value} {a4 : Nat} {fs5 : List Value} {x5 : Int32} {v8 : Int32} {g8 : ab_H} {fs8 : List Value} (hc4 : (h)[r0]? = some (6, fs4)) (hv4 : fs4[1]? = some (.ref a4)) (hc5 : (h)[a4]? = some (3, fs5)) (hv5 : fs5[2]? = some (.int x5)) (hr8 : (h)[r0]? = some (6, fs8)) (hm8 : MSE m_X6_needNumber d [.ref r0, .int 0, .int (x5 - 1)] h (some (.int v8)) g8) (kt : ¬ v8 = 0 → SW sc m_X6_readEdges (d + 1) rc rs 73 [some (.ref r0), some (.int l1), some (.int l2), some (.int l3), some (.int l4), none] [] g8 P) (kf : v8 = 0 → SW sc m_X6_readEdges (d + 1) rc rs 71 [none, none, none, none, none, none] [] g8 P) : SW sc m_X6_readEdges (d + 1) rc rs 54 [some (.ref r0), some (.int l1), some (.int l2), some (.int l3), some (.int l4), none] [] h P := by
  refine sw_aload_n dX6_readEdges_54 rfl ?_
  refine sw_iconst (v := 0) dX6_readEdges_55 (by decide) ?_
  refine sw_aload_n dX6_readEdges_56 rfl ?_
  refine sw_getf dX6_readEdges_57 lf_X6_21 hc4 hv4 ?_
  refine sw_getf dX6_readEdges_60 lf_X6_96 hc5 hv5 ?_
  refine sw_iconst (v := 1) dX6_readEdges_63 (by decide) ?_
  refine sw_isub dX6_readEdges_64 ?_
  refine sw_cV (M := m_X6_readEdges) dX6_readEdges_65 lv_X6_65 hm8 hr8 rfl (by decide) rfl rfl rfl (Nat.le_of_ble_eq_true rfl) (fun _ _ => rfl) rfl ?_
  show SW sc m_X6_readEdges _ _ _ 68 [some (.ref r0), some (.int l1), some (.int l2), some (.int l3), some (.int l4), none] [.int v8] g8 P
  exact sw_if_ne dX6_readEdges_68 (by decide) (fun q => (kt q)) (fun q => (sw_fg [true, true, true, true, true, false] rfl (kf q)))
theorem b_X6_readEdges_71  (hP : P (.inl (some (.int 0))) h) : SW sc m_X6_readEdges d rc rs 71 [none, none, none, none, none, none] [] h P := by
  refine sw_iconst (v := 0) dX6_readEdges_71 (by decide) ?_
  exact sw_ret (v := (some (.int 0))) dX6_readEdges_72 (rt_n (by decide)) hP
theorem b_X6_readEdges_73 {r0 : Nat} {l1 : Int32} {l2 : Int32} {l3 : Int32} {l4 : Int32} {fs2 : List Value} {x2 : Int32} {fs5 : List Value} {a5 : Nat} {v8 : Int32} {g8 : ab_H} {fs8 : List Value} (hc2 : (h)[r0]? = some (6, fs2)) (hv2 : fs2[6]? = some (.int x2)) (hc5 : (h)[r0]? = some (6, fs5)) (hv5 : fs5[1]? = some (.ref a5)) (hr8 : (h)[a5]? = some (3, fs8)) (hm8 : MSE m_X3_steps d [.ref a5, .int l3, .int x2] h (some (.int v8)) g8) (kt : v8 = (-1) → SW sc m_X6_readEdges (d + 1) rc rs 99 [some (.ref r0), some (.int l1), some (.int l2), some (.int l3), some (.int l4), some (.int x2)] [] g8 P) (kf : ¬ (v8 = (-1)) → SW sc m_X6_readEdges (d + 1) rc rs 93 [some (.ref r0), none, none, none, none, none] [] g8 P) : SW sc m_X6_readEdges (d + 1) rc rs 73 [some (.ref r0), some (.int l1), some (.int l2), some (.int l3), some (.int l4), none] [] h P := by
  refine sw_aload_n dX6_readEdges_73 rfl ?_
  refine sw_getf dX6_readEdges_74 lf_X6_69 hc2 hv2 ?_
  refine sw_istore dX6_readEdges_77 (by decide) rfl ?_
  show SW sc m_X6_readEdges _ _ _ 79 [some (.ref r0), some (.int l1), some (.int l2), some (.int l3), some (.int l4), some (.int x2)] [] h P
  refine sw_aload_n dX6_readEdges_79 rfl ?_
  refine sw_getf dX6_readEdges_80 lf_X6_21 hc5 hv5 ?_
  refine sw_iload_n dX6_readEdges_83 rfl ?_
  refine sw_iload dX6_readEdges_84 rfl ?_
  refine sw_cV (M := m_X6_readEdges) dX6_readEdges_86 lv_X6_99 hm8 hr8 rfl (by decide) rfl rfl rfl (Nat.le_of_ble_eq_true rfl) (fun _ _ => rfl) rfl ?_
  show SW sc m_X6_readEdges _ _ _ 89 [some (.ref r0), some (.int l1), some (.int l2), some (.int l3), some (.int l4), some (.int x2)] [.int v8] g8 P
  refine sw_iconst (v := (-1)) dX6_readEdges_89 (by decide) ?_
  exact sw_icmp_eq dX6_readEdges_90 (by decide) (fun q => (kt q)) (fun q => (sw_fg [false, true, true, true, true, true] rfl (kf q)))
theorem b_X6_readEdges_93 {r0 : Nat} {v3 : Int32} {g3 : ab_H} {fs3 : List Value} (hr3 : (h)[r0]? = some (6, fs3)) (hm3 : MSE m_X6_fail d [.ref r0, .int 3] h (some (.int v3)) g3) (hz4 : narrow .boolean (.int v3) = .int v3) (hP : P (.inl (some (.int v3))) g3) : SW sc m_X6_readEdges (d + 1) rc rs 93 [some (.ref r0), none, none, none, none, none] [] h P := by
  refine sw_aload_n dX6_readEdges_93 rfl ?_
  refine sw_iconst (v := 3) dX6_readEdges_94 (by decide) ?_
  refine sw_cV (M := m_X6_readEdges) dX6_readEdges_95 lv_X6_61 hm3 hr3 rfl (by decide) rfl rfl rfl (Nat.le_of_ble_eq_true rfl) (fun _ _ => rfl) rfl ?_
  show SW sc m_X6_readEdges _ _ _ 98 [some (.ref r0), none, none, none, none, none] [.int v3] g3 P
  exact sw_ret (v := (some (.int v3))) dX6_readEdges_98 (rt_n hz4) hP
theorem b_X6_readEdges_99 {r0 : Nat} {l1 : Int32} {l2 : Int32} {l3 : Int32} {l4 : Int32} {l5 : Int32} {fs2 : List Value} {a2 : Nat} {g5 : ab_H} {fs5 : List Value} (hc2 : (h)[r0]? = some (6, fs2)) (hv2 : fs2[1]? = some (.ref a2)) (hr5 : (h)[a2]? = some (3, fs5)) (hm5 : MSE m_X3_join d [.ref a2, .int l3, .int l5] h none g5) (kt : l1 = 0 → SW sc m_X6_readEdges (d + 1) rc rs 117 [some (.ref r0), some (.int l1), some (.int l2), none, some (.int l4), some (.int l5)] [] g5 P) (kf : ¬ (l1 = 0) → SW sc m_X6_readEdges (d + 1) rc rs 113 [some (.ref r0), some (.int l1), some (.int l2), some (.int l3), some (.int l4), none] [] g5 P) : SW sc m_X6_readEdges (d + 1) rc rs 99 [some (.ref r0), some (.int l1), some (.int l2), some (.int l3), some (.int l4), some (.int l5)] [] h P := by
  refine sw_aload_n dX6_readEdges_99 rfl ?_
  refine sw_getf dX6_readEdges_100 lf_X6_21 hc2 hv2 ?_
  refine sw_iload_n dX6_readEdges_103 rfl ?_
  refine sw_iload dX6_readEdges_104 rfl ?_
  refine sw_cV (M := m_X6_readEdges) dX6_readEdges_106 lv_X6_103 hm5 hr5 rfl (by decide) rfl rfl rfl (Nat.le_of_ble_eq_true rfl) (fun _ _ => rfl) rfl ?_
  show SW sc m_X6_readEdges _ _ _ 109 [some (.ref r0), some (.int l1), some (.int l2), some (.int l3), some (.int l4), some (.int l5)] [] g5 P
  refine sw_iload_n dX6_readEdges_109 rfl ?_
  exact sw_if_eq dX6_readEdges_110 (by decide) (fun q => (sw_fg [false, false, false, true, false, false] rfl (kt q))) (fun q => (sw_fg [false, false, false, false, false, true] rfl (kf q)))
theorem b_X6_readEdges_113 {r0 : Nat} {l1 : Int32} {l2 : Int32} {l3 : Int32} {l4 : Int32} (k : SW sc m_X6_readEdges d rc rs 119 [some (.ref r0), some (.int l1), some (.int l2), none, some (.int l4), none] [.int l3] h P) : SW sc m_X6_readEdges d rc rs 113 [some (.ref r0), some (.int l1), some (.int l2), some (.int l3), some (.int l4), none] [] h P := by
  refine sw_iload_n dX6_readEdges_113 rfl ?_
  exact sw_goto dX6_readEdges_114 (by decide) (sw_fg [false, false, false, true, false, false] rfl (k))
theorem b_X6_readEdges_117 {r0 : Nat} {l1 : Int32} {l2 : Int32} {l4 : Int32} {l5 : Int32} (k : SW sc m_X6_readEdges d rc rs 119 [some (.ref r0), some (.int l1), some (.int l2), none, some (.int l4), none] [.int l5] h P) : SW sc m_X6_readEdges d rc rs 117 [some (.ref r0), some (.int l1), some (.int l2), none, some (.int l4), some (.int l5)] [] h P := by
  refine sw_iload dX6_readEdges_117 rfl ?_
  exact (sw_fg [false, false, false, false, false, true] rfl (k))
theorem b_X6_readEdges_119 {r0 : Nat} {l1 : Int32} {l2 : Int32} {l4 : Int32} {s0 : Int32} {g3 : ab_H} {fs3 : List Value} (hr3 : (h)[r0]? = some (6, fs3)) (hm3 : MSE m_X6_advance d [.ref r0] h none g3) (k : SW sc m_X6_readEdges (d + 1) rc rs 35 [some (.ref r0), some (.int l1), some (.int l2), some (.int s0), some (.int (l4 + 1)), none] [] g3 P) : SW sc m_X6_readEdges (d + 1) rc rs 119 [some (.ref r0), some (.int l1), some (.int l2), none, some (.int l4), none] [.int s0] h P := by
  refine sw_istore_n dX6_readEdges_119 (by decide) rfl ?_
  show SW sc m_X6_readEdges _ _ _ 120 [some (.ref r0), some (.int l1), some (.int l2), some (.int s0), some (.int l4), none] [] h P
  refine sw_aload_n dX6_readEdges_120 rfl ?_
  refine sw_cV (M := m_X6_readEdges) dX6_readEdges_121 lv_X6_39 hm3 hr3 rfl (by decide) rfl rfl rfl (Nat.le_of_ble_eq_true rfl) (fun _ _ => rfl) rfl ?_
  show SW sc m_X6_readEdges _ _ _ 124 [some (.ref r0), some (.int l1), some (.int l2), some (.int s0), some (.int l4), none] [] g3 P
  refine sw_iinc (v := l4 + 1) dX6_readEdges_124 rfl rfl (by decide) rfl ?_
  show SW sc m_X6_readEdges _ _ _ 127 [some (.ref r0), some (.int l1), some (.int l2), some (.int s0), some (.int (l4 + 1)), none] [] g3 P
  exact sw_goto dX6_readEdges_127 (by decide) (k)
theorem b_X6_readEdges_130  (hP : P (.inl (some (.int 1))) h) : SW sc m_X6_readEdges d rc rs 130 [none, none, none, none, none, none] [] h P := by
  refine sw_iconst (v := 1) dX6_readEdges_130 (by decide) ?_
  exact sw_ret (v := (some (.int 1))) dX6_readEdges_131 (rt_n (by decide)) hP
theorem b_X6_readCode_0 {r0 : Nat} {fs2 : List Value} {a2 : Nat} {v3 : Int32} {g3 : ab_H} {fs3 : List Value} (hc2 : (h)[r0]? = some (6, fs2)) (hv2 : fs2[1]? = some (.ref a2)) (hr3 : (h)[a2]? = some (3, fs3)) (hm3 : MSE m_X3_edges d [.ref a2] h (some (.int v3)) g3) (kt : v3 = 0 → SW sc m_X6_readCode (d + 1) rc rs 16 [some (.ref r0), none] [] g3 P) (kf : ¬ (v3 = 0) → SW sc m_X6_readCode (d + 1) rc rs 10 [some (.ref r0), none] [] g3 P) : SW sc m_X6_readCode (d + 1) rc rs 0 [some (.ref r0), none] [] h P := by
  refine sw_aload_n dX6_readCode_0 rfl ?_
  refine sw_getf dX6_readCode_1 lf_X6_21 hc2 hv2 ?_
  refine sw_cV (M := m_X6_readCode) dX6_readCode_4 lv_X6_107 hm3 hr3 rfl (by decide) rfl rfl rfl (Nat.le_of_ble_eq_true rfl) (fun _ _ => rfl) rfl ?_
  show SW sc m_X6_readCode _ _ _ 7 [some (.ref r0), none] [.int v3] g3 P
  exact sw_if_eq dX6_readCode_7 (by decide) (fun q => (kt q)) (fun q => (kf q))
theorem b_X6_readCode_10 {r0 : Nat} {v3 : Int32} {g3 : ab_H} {fs3 : List Value} (hr3 : (h)[r0]? = some (6, fs3)) (hm3 : MSE m_X6_fail d [.ref r0, .int 4] h (some (.int v3)) g3) (hz4 : narrow .boolean (.int v3) = .int v3) (hP : P (.inl (some (.int v3))) g3) : SW sc m_X6_readCode (d + 1) rc rs 10 [some (.ref r0), none] [] h P := by
  refine sw_aload_n dX6_readCode_10 rfl ?_
  refine sw_iconst (v := 4) dX6_readCode_11 (by decide) ?_
  refine sw_cV (M := m_X6_readCode) dX6_readCode_12 lv_X6_61 hm3 hr3 rfl (by decide) rfl rfl rfl (Nat.le_of_ble_eq_true rfl) (fun _ _ => rfl) rfl ?_
  show SW sc m_X6_readCode _ _ _ 15 [some (.ref r0), none] [.int v3] g3 P
  exact sw_ret (v := (some (.int v3))) dX6_readCode_15 (rt_n hz4) hP
theorem b_X6_readCode_16 {r0 : Nat} {g2 : ab_H} {fs2 : List Value} (hr2 : (h)[r0]? = some (6, fs2)) (hm2 : MSE m_X6_advance d [.ref r0] h none g2) (k : SW sc m_X6_readCode (d + 1) rc rs 22 [some (.ref r0), some (.int 0)] [] g2 P) : SW sc m_X6_readCode (d + 1) rc rs 16 [some (.ref r0), none] [] h P := by
  refine sw_aload_n dX6_readCode_16 rfl ?_
  refine sw_cV (M := m_X6_readCode) dX6_readCode_17 lv_X6_39 hm2 hr2 rfl (by decide) rfl rfl rfl (Nat.le_of_ble_eq_true rfl) (fun _ _ => rfl) rfl ?_
  show SW sc m_X6_readCode _ _ _ 20 [some (.ref r0), none] [] g2 P
  refine sw_iconst (v := 0) dX6_readCode_20 (by decide) ?_
  refine sw_istore_n dX6_readCode_21 (by decide) rfl ?_
  show SW sc m_X6_readCode _ _ _ 22 [some (.ref r0), some (.int 0)] [] g2 P
  exact (k)
theorem b_X6_readCode_22 {r0 : Nat} {l1 : Int32} {fs3 : List Value} {a3 : Nat} {fs4 : List Value} {x4 : Int32} {v5 : Int32} {g5 : ab_H} (hc3 : (h)[r0]? = some (6, fs3)) (hv3 : fs3[1]? = some (.ref a3)) (hc4 : (h)[a3]? = some (3, fs4)) (hv4 : fs4[2]? = some (.int x4)) (hm5 : MSE m_X9_codeLength d [.int x4] h (some (.int v5)) g5) (kt : v5 ≤ l1 → SW sc m_X6_readCode (d + 1) rc rs 77 [some (.ref r0), none] [] g5 P) (kf : ¬ (v5 ≤ l1) → SW sc m_X6_readCode (d + 1) rc rs 36 [some (.ref r0), some (.int l1)] [] g5 P) : SW sc m_X6_readCode (d + 1) rc rs 22 [some (.ref r0), some (.int l1)] [] h P := by
  refine sw_iload_n dX6_readCode_22 rfl ?_
  refine sw_aload_n dX6_readCode_23 rfl ?_
  refine sw_getf dX6_readCode_24 lf_X6_21 hc3 hv3 ?_
  refine sw_getf dX6_readCode_27 lf_X6_96 hc4 hv4 ?_
  refine sw_cS (M := m_X6_readCode) dX6_readCode_30 ls_X6_111 hm5 rfl rfl (Nat.le_of_ble_eq_true rfl) (fun _ _ => rfl) rfl ?_
  show SW sc m_X6_readCode _ _ _ 33 [some (.ref r0), some (.int l1)] [.int v5, .int l1] g5 P
  exact sw_icmp_ge dX6_readCode_33 (by decide) (fun q => (sw_fg [false, true] rfl (kt q))) (fun q => (kf q))
theorem b_X6_readCode_36 {r0 : Nat} {l1 : Int32} {fs4 : List Value} {a4 : Nat} {fs5 : List Value} {x5 : Int32} {v8 : Int32} {g8 : ab_H} {fs8 : List Value} (hc4 : (h)[r0]? = some (6, fs4)) (hv4 : fs4[1]? = some (.ref a4)) (hc5 : (h)[a4]? = some (3, fs5)) (hv5 : fs5[2]? = some (.int x5)) (hr8 : (h)[r0]? = some (6, fs8)) (hm8 : MSE m_X6_needNumber d [.ref r0, .int 0, .int (x5 - 1)] h (some (.int v8)) g8) (kt : ¬ v8 = 0 → SW sc m_X6_readCode (d + 1) rc rs 55 [some (.ref r0), some (.int l1)] [] g8 P) (kf : v8 = 0 → SW sc m_X6_readCode (d + 1) rc rs 53 [none, none] [] g8 P) : SW sc m_X6_readCode (d + 1) rc rs 36 [some (.ref r0), some (.int l1)] [] h P := by
  refine sw_aload_n dX6_readCode_36 rfl ?_
  refine sw_iconst (v := 0) dX6_readCode_37 (by decide) ?_
  refine sw_aload_n dX6_readCode_38 rfl ?_
  refine sw_getf dX6_readCode_39 lf_X6_21 hc4 hv4 ?_
  refine sw_getf dX6_readCode_42 lf_X6_96 hc5 hv5 ?_
  refine sw_iconst (v := 1) dX6_readCode_45 (by decide) ?_
  refine sw_isub dX6_readCode_46 ?_
  refine sw_cV (M := m_X6_readCode) dX6_readCode_47 lv_X6_65 hm8 hr8 rfl (by decide) rfl rfl rfl (Nat.le_of_ble_eq_true rfl) (fun _ _ => rfl) rfl ?_
  show SW sc m_X6_readCode _ _ _ 50 [some (.ref r0), some (.int l1)] [.int v8] g8 P
  exact sw_if_ne dX6_readCode_50 (by decide) (fun q => (kt q)) (fun q => (sw_fg [true, true] rfl (kf q)))
theorem b_X6_readCode_53  (hP : P (.inl (some (.int 0))) h) : SW sc m_X6_readCode d rc rs 53 [none, none] [] h P := by
  refine sw_iconst (v := 0) dX6_readCode_53 (by decide) ?_
  exact sw_ret (v := (some (.int 0))) dX6_readCode_54 (rt_n (by decide)) hP
theorem b_X6_readCode_55 {r0 : Nat} {l1 : Int32} {fs2 : List Value} {a2 : Nat} {fs5 : List Value} {x5 : Int32} {g6 : ab_H} {fs6 : List Value} {g8 : ab_H} {fs8 : List Value} (hc2 : (h)[r0]? = some (6, fs2)) (hv2 : fs2[2]? = some (.ref a2)) (hc5 : (h)[r0]? = some (6, fs5)) (hv5 : fs5[6]? = some (.int x5)) (hr6 : (h)[a2]? = some (1, fs6)) (hm6 : MSE m_X1_setNumber d [.ref a2, .int l1, .int x5] h none g6) (hr8 : (g6)[r0]? = some (6, fs8)) (hm8 : MSE m_X6_advance d [.ref r0] g6 none g8) (k : SW sc m_X6_readCode (d + 1) rc rs 22 [some (.ref r0), some (.int (l1 + 1))] [] g8 P) : SW sc m_X6_readCode (d + 1) rc rs 55 [some (.ref r0), some (.int l1)] [] h P := by
  refine sw_aload_n dX6_readCode_55 rfl ?_
  refine sw_getf dX6_readCode_56 lf_X6_28 hc2 hv2 ?_
  refine sw_iload_n dX6_readCode_59 rfl ?_
  refine sw_aload_n dX6_readCode_60 rfl ?_
  refine sw_getf dX6_readCode_61 lf_X6_69 hc5 hv5 ?_
  refine sw_cV (M := m_X6_readCode) dX6_readCode_64 lv_X6_115 hm6 hr6 rfl (by decide) rfl rfl rfl (Nat.le_of_ble_eq_true rfl) (fun _ _ => rfl) rfl ?_
  show SW sc m_X6_readCode _ _ _ 67 [some (.ref r0), some (.int l1)] [] g6 P
  refine sw_aload_n dX6_readCode_67 rfl ?_
  refine sw_cV (M := m_X6_readCode) dX6_readCode_68 lv_X6_39 hm8 hr8 rfl (by decide) rfl rfl rfl (Nat.le_of_ble_eq_true rfl) (fun _ _ => rfl) rfl ?_
  show SW sc m_X6_readCode _ _ _ 71 [some (.ref r0), some (.int l1)] [] g8 P
  refine sw_iinc (v := l1 + 1) dX6_readCode_71 rfl rfl (by decide) rfl ?_
  show SW sc m_X6_readCode _ _ _ 74 [some (.ref r0), some (.int (l1 + 1))] [] g8 P
  exact sw_goto dX6_readCode_74 (by decide) (k)
theorem b_X6_readCode_77 {r0 : Nat} {fs2 : List Value} {a2 : Nat} {fs4 : List Value} {a4 : Nat} {g5 : ab_H} {fs5 : List Value} (hc2 : (h)[r0]? = some (6, fs2)) (hv2 : fs2[2]? = some (.ref a2)) (hc4 : (h)[r0]? = some (6, fs4)) (hv4 : fs4[1]? = some (.ref a4)) (hr5 : (h)[a2]? = some (1, fs5)) (hm5 : MSE m_X1_plant d [.ref a2, .ref a4] h none g5) (hP : P (.inl (some (.int 1))) g5) : SW sc m_X6_readCode (d + 1) rc rs 77 [some (.ref r0), none] [] h P := by
  refine sw_aload_n dX6_readCode_77 rfl ?_
  refine sw_getf dX6_readCode_78 lf_X6_28 hc2 hv2 ?_
  refine sw_aload_n dX6_readCode_81 rfl ?_
  refine sw_getf dX6_readCode_82 lf_X6_21 hc4 hv4 ?_
  refine sw_cV (M := m_X6_readCode) dX6_readCode_85 lv_X6_118 hm5 hr5 rfl (by decide) rfl rfl rfl (Nat.le_of_ble_eq_true rfl) (fun _ _ => rfl) rfl ?_
  show SW sc m_X6_readCode _ _ _ 88 [some (.ref r0), none] [] g5 P
  refine sw_iconst (v := 1) dX6_readCode_88 (by decide) ?_
  exact sw_ret (v := (some (.int 1))) dX6_readCode_89 (rt_n (by decide)) hP
theorem b_X6_readWeight_0 {r0 : Nat} {g2 : ab_H} {fs2 : List Value} {fs6 : List Value} {a6 : Nat} {fs7 : List Value} {x7 : Int32} {v10 : Int32} {g10 : ab_H} {fs10 : List Value} (hr2 : (h)[r0]? = some (6, fs2)) (hm2 : MSE m_X6_advance d [.ref r0] h none g2) (hc6 : (g2)[r0]? = some (6, fs6)) (hv6 : fs6[1]? = some (.ref a6)) (hc7 : (g2)[a6]? = some (3, fs7)) (hv7 : fs7[2]? = some (.int x7)) (hr10 : (g2)[r0]? = some (6, fs10)) (hm10 : MSE m_X6_needNumber d [.ref r0, .int 0, .int (x7 - 1)] g2 (some (.int v10)) g10) (kt : ¬ v10 = 0 → SW sc m_X6_readWeight (d + 1) rc rs 23 [some (.ref r0), none] [] g10 P) (kf : v10 = 0 → SW sc m_X6_readWeight (d + 1) rc rs 21 [none, none] [] g10 P) : SW sc m_X6_readWeight (d + 1) rc rs 0 [some (.ref r0), none] [] h P := by
  refine sw_aload_n dX6_readWeight_0 rfl ?_
  refine sw_cV (M := m_X6_readWeight) dX6_readWeight_1 lv_X6_39 hm2 hr2 rfl (by decide) rfl rfl rfl (Nat.le_of_ble_eq_true rfl) (fun _ _ => rfl) rfl ?_
  show SW sc m_X6_readWeight _ _ _ 4 [some (.ref r0), none] [] g2 P
  refine sw_aload_n dX6_readWeight_4 rfl ?_
  refine sw_iconst (v := 0) dX6_readWeight_5 (by decide) ?_
  refine sw_aload_n dX6_readWeight_6 rfl ?_
  refine sw_getf dX6_readWeight_7 lf_X6_21 hc6 hv6 ?_
  refine sw_getf dX6_readWeight_10 lf_X6_96 hc7 hv7 ?_
  refine sw_iconst (v := 1) dX6_readWeight_13 (by decide) ?_
  refine sw_isub dX6_readWeight_14 ?_
  refine sw_cV (M := m_X6_readWeight) dX6_readWeight_15 lv_X6_65 hm10 hr10 rfl (by decide) rfl rfl rfl (Nat.le_of_ble_eq_true rfl) (fun _ _ => rfl) rfl ?_
  show SW sc m_X6_readWeight _ _ _ 18 [some (.ref r0), none] [.int v10] g10 P
  exact sw_if_ne dX6_readWeight_18 (by decide) (fun q => (kt q)) (fun q => (sw_fg [true, false] rfl (kf q)))
theorem b_X6_readWeight_21  (hP : P (.inl (some (.int 0))) h) : SW sc m_X6_readWeight d rc rs 21 [none, none] [] h P := by
  refine sw_iconst (v := 0) dX6_readWeight_21 (by decide) ?_
  exact sw_ret (v := (some (.int 0))) dX6_readWeight_22 (rt_n (by decide)) hP
theorem b_X6_readWeight_23 {r0 : Nat} {fs2 : List Value} {x2 : Int32} {g5 : ab_H} {fs5 : List Value} {v9 : Int32} {g9 : ab_H} {fs9 : List Value} (hc2 : (h)[r0]? = some (6, fs2)) (hv2 : fs2[6]? = some (.int x2)) (hr5 : (h)[r0]? = some (6, fs5)) (hm5 : MSE m_X6_advance d [.ref r0] h none g5) (hr9 : (g5)[r0]? = some (6, fs9)) (hm9 : MSE m_X6_needNumber d [.ref r0, .int 0, .int 99] g5 (some (.int v9)) g9) (kt : ¬ v9 = 0 → SW sc m_X6_readWeight (d + 1) rc rs 44 [some (.ref r0), some (.int x2)] [] g9 P) (kf : v9 = 0 → SW sc m_X6_readWeight (d + 1) rc rs 42 [none, none] [] g9 P) : SW sc m_X6_readWeight (d + 1) rc rs 23 [some (.ref r0), none] [] h P := by
  refine sw_aload_n dX6_readWeight_23 rfl ?_
  refine sw_getf dX6_readWeight_24 lf_X6_69 hc2 hv2 ?_
  refine sw_istore_n dX6_readWeight_27 (by decide) rfl ?_
  show SW sc m_X6_readWeight _ _ _ 28 [some (.ref r0), some (.int x2)] [] h P
  refine sw_aload_n dX6_readWeight_28 rfl ?_
  refine sw_cV (M := m_X6_readWeight) dX6_readWeight_29 lv_X6_39 hm5 hr5 rfl (by decide) rfl rfl rfl (Nat.le_of_ble_eq_true rfl) (fun _ _ => rfl) rfl ?_
  show SW sc m_X6_readWeight _ _ _ 32 [some (.ref r0), some (.int x2)] [] g5 P
  refine sw_aload_n dX6_readWeight_32 rfl ?_
  refine sw_iconst (v := 0) dX6_readWeight_33 (by decide) ?_
  refine sw_bipush (v := 99) dX6_readWeight_34 (by decide) ?_
  refine sw_cV (M := m_X6_readWeight) dX6_readWeight_36 lv_X6_65 hm9 hr9 rfl (by decide) rfl rfl rfl (Nat.le_of_ble_eq_true rfl) (fun _ _ => rfl) rfl ?_
  show SW sc m_X6_readWeight _ _ _ 39 [some (.ref r0), some (.int x2)] [.int v9] g9 P
  exact sw_if_ne dX6_readWeight_39 (by decide) (fun q => (kt q)) (fun q => (sw_fg [true, true] rfl (kf q)))
theorem b_X6_readWeight_42  (hP : P (.inl (some (.int 0))) h) : SW sc m_X6_readWeight d rc rs 42 [none, none] [] h P := by
  refine sw_iconst (v := 0) dX6_readWeight_42 (by decide) ?_
  exact sw_ret (v := (some (.int 0))) dX6_readWeight_43 (rt_n (by decide)) hP
theorem b_X6_readWeight_44 {r0 : Nat} {l1 : Int32} {fs2 : List Value} {a2 : Nat} {fs5 : List Value} {x5 : Int32} {g6 : ab_H} {fs6 : List Value} {g8 : ab_H} {fs8 : List Value} (hc2 : (h)[r0]? = some (6, fs2)) (hv2 : fs2[1]? = some (.ref a2)) (hc5 : (h)[r0]? = some (6, fs5)) (hv5 : fs5[6]? = some (.int x5)) (hr6 : (h)[a2]? = some (3, fs6)) (hm6 : MSE m_X3_weigh d [.ref a2, .int l1, .int x5] h none g6) (hr8 : (g6)[r0]? = some (6, fs8)) (hm8 : MSE m_X6_advance d [.ref r0] g6 none g8) (hP : P (.inl (some (.int 1))) g8) : SW sc m_X6_readWeight (d + 1) rc rs 44 [some (.ref r0), some (.int l1)] [] h P := by
  refine sw_aload_n dX6_readWeight_44 rfl ?_
  refine sw_getf dX6_readWeight_45 lf_X6_21 hc2 hv2 ?_
  refine sw_iload_n dX6_readWeight_48 rfl ?_
  refine sw_aload_n dX6_readWeight_49 rfl ?_
  refine sw_getf dX6_readWeight_50 lf_X6_69 hc5 hv5 ?_
  refine sw_cV (M := m_X6_readWeight) dX6_readWeight_53 lv_X6_122 hm6 hr6 rfl (by decide) rfl rfl rfl (Nat.le_of_ble_eq_true rfl) (fun _ _ => rfl) rfl ?_
  show SW sc m_X6_readWeight _ _ _ 56 [some (.ref r0), some (.int l1)] [] g6 P
  refine sw_aload_n dX6_readWeight_56 rfl ?_
  refine sw_cV (M := m_X6_readWeight) dX6_readWeight_57 lv_X6_39 hm8 hr8 rfl (by decide) rfl rfl rfl (Nat.le_of_ble_eq_true rfl) (fun _ _ => rfl) rfl ?_
  show SW sc m_X6_readWeight _ _ _ 60 [some (.ref r0), some (.int l1)] [] g8 P
  refine sw_iconst (v := 1) dX6_readWeight_60 (by decide) ?_
  exact sw_ret (v := (some (.int 1))) dX6_readWeight_61 (rt_n (by decide)) hP
theorem b_X6_needNumber_0 {r0 : Nat} {l1 : Int32} {l2 : Int32} {fs2 : List Value} {x2 : Int32} (hc2 : (h)[r0]? = some (6, fs2)) (hv2 : fs2[5]? = some (.int x2)) (kt : x2 = 2 → SW sc m_X6_needNumber d rc rs 14 [some (.ref r0), some (.int l1), some (.int l2)] [] h P) (kf : ¬ (x2 = 2) → SW sc m_X6_needNumber d rc rs 8 [some (.ref r0), none, none] [] h P) : SW sc m_X6_needNumber d rc rs 0 [some (.ref r0), some (.int l1), some (.int l2)] [] h P := by
  refine sw_aload_n dX6_needNumber_0 rfl ?_
  refine sw_getf dX6_needNumber_1 lf_X6_46 hc2 hv2 ?_
  refine sw_iconst (v := 2) dX6_needNumber_4 (by decide) ?_
  exact sw_icmp_eq dX6_needNumber_5 (by decide) (fun q => (kt q)) (fun q => (sw_fg [false, true, true] rfl (kf q)))
theorem b_X6_needNumber_8 {r0 : Nat} {v3 : Int32} {g3 : ab_H} {fs3 : List Value} (hr3 : (h)[r0]? = some (6, fs3)) (hm3 : MSE m_X6_fail d [.ref r0, .int 1] h (some (.int v3)) g3) (hz4 : narrow .boolean (.int v3) = .int v3) (hP : P (.inl (some (.int v3))) g3) : SW sc m_X6_needNumber (d + 1) rc rs 8 [some (.ref r0), none, none] [] h P := by
  refine sw_aload_n dX6_needNumber_8 rfl ?_
  refine sw_iconst (v := 1) dX6_needNumber_9 (by decide) ?_
  refine sw_cV (M := m_X6_needNumber) dX6_needNumber_10 lv_X6_61 hm3 hr3 rfl (by decide) rfl rfl rfl (Nat.le_of_ble_eq_true rfl) (fun _ _ => rfl) rfl ?_
  show SW sc m_X6_needNumber _ _ _ 13 [some (.ref r0), none, none] [.int v3] g3 P
  exact sw_ret (v := (some (.int v3))) dX6_needNumber_13 (rt_n hz4) hP
theorem b_X6_needNumber_14 {r0 : Nat} {l1 : Int32} {l2 : Int32} {fs2 : List Value} {x2 : Int32} (hc2 : (h)[r0]? = some (6, fs2)) (hv2 : fs2[6]? = some (.int x2)) (kt : x2 < l1 → SW sc m_X6_needNumber d rc rs 30 [some (.ref r0), none, none] [] h P) (kf : ¬ (x2 < l1) → SW sc m_X6_needNumber d rc rs 22 [some (.ref r0), none, some (.int l2)] [] h P) : SW sc m_X6_needNumber d rc rs 14 [some (.ref r0), some (.int l1), some (.int l2)] [] h P := by
  refine sw_aload_n dX6_needNumber_14 rfl ?_
  refine sw_getf dX6_needNumber_15 lf_X6_69 hc2 hv2 ?_
  refine sw_iload_n dX6_needNumber_18 rfl ?_
  exact sw_icmp_lt dX6_needNumber_19 (by decide) (fun q => (sw_fg [false, true, true] rfl (kt q))) (fun q => (sw_fg [false, true, false] rfl (kf q)))
theorem b_X6_needNumber_22 {r0 : Nat} {l2 : Int32} {fs2 : List Value} {x2 : Int32} (hc2 : (h)[r0]? = some (6, fs2)) (hv2 : fs2[6]? = some (.int x2)) (kt : x2 ≤ l2 → SW sc m_X6_needNumber d rc rs 38 [none, none, none] [] h P) (kf : ¬ (x2 ≤ l2) → SW sc m_X6_needNumber d rc rs 30 [some (.ref r0), none, none] [] h P) : SW sc m_X6_needNumber d rc rs 22 [some (.ref r0), none, some (.int l2)] [] h P := by
  refine sw_aload_n dX6_needNumber_22 rfl ?_
  refine sw_getf dX6_needNumber_23 lf_X6_69 hc2 hv2 ?_
  refine sw_iload_n dX6_needNumber_26 rfl ?_
  exact sw_icmp_le dX6_needNumber_27 (by decide) (fun q => (sw_fg [true, false, true] rfl (kt q))) (fun q => (sw_fg [false, false, true] rfl (kf q)))
theorem b_X6_needNumber_30 {r0 : Nat} {v3 : Int32} {g3 : ab_H} {fs3 : List Value} (hr3 : (h)[r0]? = some (6, fs3)) (hm3 : MSE m_X6_fail d [.ref r0, .int 2] h (some (.int v3)) g3) (kt : v3 = 0 → SW sc m_X6_needNumber (d + 1) rc rs 42 [none, none, none] [] g3 P) (kf : ¬ (v3 = 0) → SW sc m_X6_needNumber (d + 1) rc rs 38 [none, none, none] [] g3 P) : SW sc m_X6_needNumber (d + 1) rc rs 30 [some (.ref r0), none, none] [] h P := by
  refine sw_aload_n dX6_needNumber_30 rfl ?_
  refine sw_iconst (v := 2) dX6_needNumber_31 (by decide) ?_
  refine sw_cV (M := m_X6_needNumber) dX6_needNumber_32 lv_X6_61 hm3 hr3 rfl (by decide) rfl rfl rfl (Nat.le_of_ble_eq_true rfl) (fun _ _ => rfl) rfl ?_
  show SW sc m_X6_needNumber _ _ _ 35 [some (.ref r0), none, none] [.int v3] g3 P
  exact sw_if_eq dX6_needNumber_35 (by decide) (fun q => (sw_fg [true, false, false] rfl (kt q))) (fun q => (sw_fg [true, false, false] rfl (kf q)))
theorem b_X6_needNumber_38  (k : SW sc m_X6_needNumber d rc rs 43 [none, none, none] [.int 1] h P) : SW sc m_X6_needNumber d rc rs 38 [none, none, none] [] h P := by
  refine sw_iconst (v := 1) dX6_needNumber_38 (by decide) ?_
  exact sw_goto dX6_needNumber_39 (by decide) (k)
theorem b_X6_needNumber_42  (k : SW sc m_X6_needNumber d rc rs 43 [none, none, none] [.int 0] h P) : SW sc m_X6_needNumber d rc rs 42 [none, none, none] [] h P := by
  refine sw_iconst (v := 0) dX6_needNumber_42 (by decide) ?_
  exact (k)
theorem b_X6_needNumber_43 {s0 : Int32} (hz1 : narrow .boolean (.int s0) = .int s0) (hP : P (.inl (some (.int s0))) h) : SW sc m_X6_needNumber d rc rs 43 [none, none, none] [.int s0] h P := by
  exact sw_ret (v := (some (.int s0))) dX6_needNumber_43 (rt_n hz1) hP
theorem b_X6_fail_0 {r0 : Nat} {l1 : Int32} {fs4 : List Value} {x4 : Int32} {fs8 : List Value} (hc4 : (h)[r0]? = some (6, fs4)) (hv4 : fs4[3]? = some (.int x4)) (hc8 : (h)[r0]? = some (6, fs8)) (hk8 : 7 < fs8.length) (hP : P (.inl (some (.int 0))) ((h).set r0 (6, fs8.set 7 (.int ((8 * x4) + l1))))) : SW sc m_X6_fail d rc rs 0 [some (.ref r0), some (.int l1)] [] h P := by
  refine sw_aload_n dX6_fail_0 rfl ?_
  refine sw_bipush (v := 8) dX6_fail_1 (by decide) ?_
  refine sw_aload_n dX6_fail_3 rfl ?_
  refine sw_getf dX6_fail_4 lf_X6_125 hc4 hv4 ?_
  refine sw_imul dX6_fail_7 ?_
  refine sw_iload_n dX6_fail_8 rfl ?_
  refine sw_iadd dX6_fail_9 ?_
  refine sw_putf dX6_fail_10 lp_X6_36 hc8 hk8 (fun _ _ => ⟨rfl, rfl⟩) ?_
  refine sw_iconst (v := 0) dX6_fail_13 (by decide) ?_
  exact sw_ret (v := (some (.int 0))) dX6_fail_14 (rt_n (by decide)) hP
theorem b_X6_isWord_0 {r0 : Nat} {t1 : Nat} {fs2 : List Value} {x2 : Int32} (hc2 : (h)[r0]? = some (6, fs2)) (hv2 : fs2[5]? = some (.int x2)) (kt : ¬ x2 = 1 → SW sc m_X6_isWord d rc rs 24 [none, none, none] [] h P) (kf : x2 = 1 → SW sc m_X6_isWord d rc rs 8 [some (.ref r0), some (.retAddr t1), none] [] h P) : SW sc m_X6_isWord d rc rs 0 [some (.ref r0), some (.retAddr t1), none] [] h P := by
  refine sw_aload_n dX6_isWord_0 rfl ?_
  refine sw_getf dX6_isWord_1 lf_X6_46 hc2 hv2 ?_
  refine sw_iconst (v := 1) dX6_isWord_4 (by decide) ?_
  exact sw_icmp_ne dX6_isWord_5 (by decide) (fun q => (sw_fg [true, true, false] rfl (kt q))) (fun q => (kf q))
theorem b_X6_isWord_8 {r0 : Nat} {t1 : Nat} {fs2 : List Value} {x2 : Int32} {fs4 : List Value} {x4 : Int32} {v7 : Int32} {g7 : ab_H} (hc2 : (h)[r0]? = some (6, fs2)) (hv2 : fs2[4]? = some (.int x2)) (hc4 : (h)[r0]? = some (6, fs4)) (hv4 : fs4[3]? = some (.int x4)) (ht6 : t1 < 6) (ht7 : t1 < 6) (hm7 : MSE m_J0_length_8abf5 d [.retAddr t1] h (some (.int v7)) g7) (kt : (x2 - x4) = v7 → SW sc m_X6_isWord (d + 1) rc rs 26 [some (.ref r0), some (.retAddr t1), none] [] g7 P) (kf : ¬ ((x2 - x4) = v7) → SW sc m_X6_isWord (d + 1) rc rs 24 [none, none, none] [] g7 P) : SW sc m_X6_isWord (d + 1) rc rs 8 [some (.ref r0), some (.retAddr t1), none] [] h P := by
  refine sw_aload_n dX6_isWord_8 rfl ?_
  refine sw_getf dX6_isWord_9 lf_X6_32 hc2 hv2 ?_
  refine sw_aload_n dX6_isWord_12 rfl ?_
  refine sw_getf dX6_isWord_13 lf_X6_125 hc4 hv4 ?_
  refine sw_isub dX6_isWord_16 ?_
  refine sw_aload_nt dX6_isWord_17 rfl (Or.inl ht6) ?_
  refine sw_cT (M := m_X6_isWord) dX6_isWord_18 lv_X6_128 rfl ht7 hm7 rfl rfl (Nat.le_of_ble_eq_true rfl) (fun _ _ => rfl) (fun σ τ v hv => by simp at hv) ?_
  show SW sc m_X6_isWord _ _ _ 21 [some (.ref r0), some (.retAddr t1), none] [.int v7, .int (x2 - x4)] g7 P
  exact sw_icmp_eq dX6_isWord_21 (by decide) (fun q => (kt q)) (fun q => (sw_fg [true, true, false] rfl (kf q)))
theorem b_X6_isWord_24  (hP : P (.inl (some (.int 0))) h) : SW sc m_X6_isWord d rc rs 24 [none, none, none] [] h P := by
  refine sw_iconst (v := 0) dX6_isWord_24 (by decide) ?_
  exact sw_ret (v := (some (.int 0))) dX6_isWord_25 (rt_n (by decide)) hP
theorem b_X6_isWord_26 {r0 : Nat} {t1 : Nat} (ht0 : t1 < 6) (k : SW sc m_X6_isWord d rc rs 28 [some (.ref r0), some (.retAddr t1), some (.int 0)] [] h P) : SW sc m_X6_isWord d rc rs 26 [some (.ref r0), some (.retAddr t1), none] [] h P := by
  refine sw_iconst (v := 0) dX6_isWord_26 (by decide) ?_
  refine sw_istore_nt (M := m_X6_isWord) dX6_isWord_27 (by decide) rfl rfl ht0 ?_
  show SW sc m_X6_isWord _ _ _ 28 [some (.ref r0), some (.retAddr t1), some (.int 0)] [] h P
  exact (k)
theorem b_X6_isWord_28 {r0 : Nat} {t1 : Nat} {l2 : Int32} {v3 : Int32} {g3 : ab_H} (ht2 : t1 < 6) (ht3 : t1 < 6) (hm3 : MSE m_J0_length_8abf5 d [.retAddr t1] h (some (.int v3)) g3) (kt : v3 ≤ l2 → SW sc m_X6_isWord (d + 1) rc rs 65 [none, none, none] [] g3 P) (kf : ¬ (v3 ≤ l2) → SW sc m_X6_isWord (d + 1) rc rs 36 [some (.ref r0), some (.retAddr t1), some (.int l2)] [] g3 P) : SW sc m_X6_isWord (d + 1) rc rs 28 [some (.ref r0), some (.retAddr t1), some (.int l2)] [] h P := by
  refine sw_iload_n dX6_isWord_28 rfl ?_
  refine sw_aload_nt dX6_isWord_29 rfl (Or.inl ht2) ?_
  refine sw_cT (M := m_X6_isWord) dX6_isWord_30 lv_X6_128 rfl ht3 hm3 rfl rfl (Nat.le_of_ble_eq_true rfl) (fun _ _ => rfl) (fun σ τ v hv => by simp at hv) ?_
  show SW sc m_X6_isWord _ _ _ 33 [some (.ref r0), some (.retAddr t1), some (.int l2)] [.int v3, .int l2] g3 P
  exact sw_icmp_ge dX6_isWord_33 (by decide) (fun q => (sw_fg [true, true, true] rfl (kt q))) (fun q => (kf q))
theorem b_X6_isWord_36 {r0 : Nat} {t1 : Nat} {l2 : Int32} {fs2 : List Value} {a2 : Nat} {fs4 : List Value} {x4 : Int32} {v7 : Int32} {g7 : ab_H} {fs7 : List Value} {v10 : Int32} {g10 : ab_H} (hc2 : (h)[r0]? = some (6, fs2)) (hv2 : fs2[0]? = some (.ref a2)) (hc4 : (h)[r0]? = some (6, fs4)) (hv4 : fs4[3]? = some (.int x4)) (hr7 : (h)[a2]? = some (0, fs7)) (hm7 : MSE m_X0_at d [.ref a2, .int (x4 + l2)] h (some (.int v7)) g7) (ht8 : t1 < 6) (ht10 : t1 < 6) (hm10 : MSE m_J0_charAt_5068e d [.retAddr t1, .int l2] g7 (some (.int v10)) g10) (kt : v7 = v10 → SW sc m_X6_isWord (d + 1) rc rs 59 [some (.ref r0), some (.retAddr t1), some (.int l2)] [] g10 P) (kf : ¬ (v7 = v10) → SW sc m_X6_isWord (d + 1) rc rs 57 [none, none, none] [] g10 P) : SW sc m_X6_isWord (d + 1) rc rs 36 [some (.ref r0), some (.retAddr t1), some (.int l2)] [] h P := by
  refine sw_aload_n dX6_isWord_36 rfl ?_
  refine sw_getf dX6_isWord_37 lf_X6_12 hc2 hv2 ?_
  refine sw_aload_n dX6_isWord_40 rfl ?_
  refine sw_getf dX6_isWord_41 lf_X6_125 hc4 hv4 ?_
  refine sw_iload_n dX6_isWord_44 rfl ?_
  refine sw_iadd dX6_isWord_45 ?_
  refine sw_cV (M := m_X6_isWord) dX6_isWord_46 lv_X6_133 hm7 hr7 rfl (by decide) rfl rfl rfl (Nat.le_of_ble_eq_true rfl) (fun _ _ => rfl) rfl ?_
  show SW sc m_X6_isWord _ _ _ 49 [some (.ref r0), some (.retAddr t1), some (.int l2)] [.int v7] g7 P
  refine sw_aload_nt dX6_isWord_49 rfl (Or.inl ht8) ?_
  refine sw_iload_n dX6_isWord_50 rfl ?_
  refine sw_cT (M := m_X6_isWord) dX6_isWord_51 lv_X6_136 rfl ht10 hm10 rfl rfl (Nat.le_of_ble_eq_true rfl) (fun _ _ => rfl) (fun σ τ v hv => by rw [List.mem_singleton.mp hv]; rfl) ?_
  show SW sc m_X6_isWord _ _ _ 54 [some (.ref r0), some (.retAddr t1), some (.int l2)] [.int v10, .int v7] g10 P
  exact sw_icmp_eq dX6_isWord_54 (by decide) (fun q => (kt q)) (fun q => (sw_fg [true, true, true] rfl (kf q)))
theorem b_X6_isWord_57  (hP : P (.inl (some (.int 0))) h) : SW sc m_X6_isWord d rc rs 57 [none, none, none] [] h P := by
  refine sw_iconst (v := 0) dX6_isWord_57 (by decide) ?_
  exact sw_ret (v := (some (.int 0))) dX6_isWord_58 (rt_n (by decide)) hP
theorem b_X6_isWord_59 {r0 : Nat} {t1 : Nat} {l2 : Int32} (ht0 : t1 < 6) (k : SW sc m_X6_isWord d rc rs 28 [some (.ref r0), some (.retAddr t1), some (.int (l2 + 1))] [] h P) : SW sc m_X6_isWord d rc rs 59 [some (.ref r0), some (.retAddr t1), some (.int l2)] [] h P := by
  refine sw_iinct (M := m_X6_isWord) (v := l2 + 1) dX6_isWord_59 rfl rfl (by decide) rfl rfl ht0 ?_
  show SW sc m_X6_isWord _ _ _ 62 [some (.ref r0), some (.retAddr t1), some (.int (l2 + 1))] [] h P
  exact sw_goto dX6_isWord_62 (by decide) (k)
theorem b_X6_isWord_65  (hP : P (.inl (some (.int 1))) h) : SW sc m_X6_isWord d rc rs 65 [none, none, none] [] h P := by
  refine sw_iconst (v := 1) dX6_isWord_65 (by decide) ?_
  exact sw_ret (v := (some (.int 1))) dX6_isWord_66 (rt_n (by decide)) hP
theorem b_X6_advance_0 {r0 : Nat} {fs3 : List Value} {x3 : Int32} {fs4 : List Value} (hc3 : (h)[r0]? = some (6, fs3)) (hv3 : fs3[4]? = some (.int x3)) (hc4 : (h)[r0]? = some (6, fs4)) (hk4 : 3 < fs4.length) (k : SW sc m_X6_advance d rc rs 8 [some (.ref r0), none] [] ((h).set r0 (6, fs4.set 3 (.int x3))) P) : SW sc m_X6_advance d rc rs 0 [some (.ref r0), none] [] h P := by
  refine sw_aload_n dX6_advance_0 rfl ?_
  refine sw_aload_n dX6_advance_1 rfl ?_
  refine sw_getf dX6_advance_2 lf_X6_32 hc3 hv3 ?_
  refine sw_putf dX6_advance_5 lp_X6_125 hc4 hk4 (fun _ _ => ⟨rfl, rfl⟩) ?_
  exact (k)
theorem b_X6_advance_8 {r0 : Nat} {fs2 : List Value} {x2 : Int32} {fs4 : List Value} {a4 : Nat} {fs5 : List Value} {x5 : Int32} (hc2 : (h)[r0]? = some (6, fs2)) (hv2 : fs2[3]? = some (.int x2)) (hc4 : (h)[r0]? = some (6, fs4)) (hv4 : fs4[0]? = some (.ref a4)) (hc5 : (h)[a4]? = some (0, fs5)) (hv5 : fs5[1]? = some (.int x5)) (kt : x5 ≤ x2 → SW sc m_X6_advance d rc rs 52 [some (.ref r0), none] [] h P) (kf : ¬ (x5 ≤ x2) → SW sc m_X6_advance d rc rs 22 [some (.ref r0), none] [] h P) : SW sc m_X6_advance d rc rs 8 [some (.ref r0), none] [] h P := by
  refine sw_aload_n dX6_advance_8 rfl ?_
  refine sw_getf dX6_advance_9 lf_X6_125 hc2 hv2 ?_
  refine sw_aload_n dX6_advance_12 rfl ?_
  refine sw_getf dX6_advance_13 lf_X6_12 hc4 hv4 ?_
  refine sw_getf dX6_advance_16 lf_X6_140 hc5 hv5 ?_
  exact sw_icmp_ge dX6_advance_19 (by decide) (fun q => (kt q)) (fun q => (kf q))
theorem b_X6_advance_22 {r0 : Nat} {fs2 : List Value} {a2 : Nat} {fs4 : List Value} {x4 : Int32} {v5 : Int32} {g5 : ab_H} {fs5 : List Value} {v6 : Int32} {g6 : ab_H} (hc2 : (h)[r0]? = some (6, fs2)) (hv2 : fs2[0]? = some (.ref a2)) (hc4 : (h)[r0]? = some (6, fs4)) (hv4 : fs4[3]? = some (.int x4)) (hr5 : (h)[a2]? = some (0, fs5)) (hm5 : MSE m_X0_at d [.ref a2, .int x4] h (some (.int v5)) g5) (hm6 : MSE m_X6_isBlank d [.int v5] g5 (some (.int v6)) g6) (kt : v6 = 0 → SW sc m_X6_advance (d + 1) rc rs 52 [some (.ref r0), none] [] g6 P) (kf : ¬ (v6 = 0) → SW sc m_X6_advance (d + 1) rc rs 39 [some (.ref r0), none] [] g6 P) : SW sc m_X6_advance (d + 1) rc rs 22 [some (.ref r0), none] [] h P := by
  refine sw_aload_n dX6_advance_22 rfl ?_
  refine sw_getf dX6_advance_23 lf_X6_12 hc2 hv2 ?_
  refine sw_aload_n dX6_advance_26 rfl ?_
  refine sw_getf dX6_advance_27 lf_X6_125 hc4 hv4 ?_
  refine sw_cV (M := m_X6_advance) dX6_advance_30 lv_X6_133 hm5 hr5 rfl (by decide) rfl rfl rfl (Nat.le_of_ble_eq_true rfl) (fun _ _ => rfl) rfl ?_
  show SW sc m_X6_advance _ _ _ 33 [some (.ref r0), none] [.int v5] g5 P
  refine sw_cS (M := m_X6_advance) dX6_advance_33 ls_X6_142 hm6 rfl rfl (Nat.le_of_ble_eq_true rfl) (fun _ _ => rfl) rfl ?_
  show SW sc m_X6_advance _ _ _ 36 [some (.ref r0), none] [.int v6] g6 P
  exact sw_if_eq dX6_advance_36 (by decide) (fun q => (kt q)) (fun q => (kf q))
theorem b_X6_advance_39 {r0 : Nat} {fs3 : List Value} {x3 : Int32} {fs6 : List Value} (hc3 : (h)[r0]? = some (6, fs3)) (hv3 : fs3[3]? = some (.int x3)) (hc6 : (h)[r0]? = some (6, fs6)) (hk6 : 3 < fs6.length) (k : SW sc m_X6_advance d rc rs 8 [some (.ref r0), none] [] ((h).set r0 (6, fs6.set 3 (.int (x3 + 1)))) P) : SW sc m_X6_advance d rc rs 39 [some (.ref r0), none] [] h P := by
  refine sw_aload_n dX6_advance_39 rfl ?_
  refine sw_dup dX6_advance_40 (fun _ _ => rfl) ?_
  refine sw_getf dX6_advance_41 lf_X6_125 hc3 hv3 ?_
  refine sw_iconst (v := 1) dX6_advance_44 (by decide) ?_
  refine sw_iadd dX6_advance_45 ?_
  refine sw_putf dX6_advance_46 lp_X6_125 hc6 hk6 (fun _ _ => ⟨rfl, rfl⟩) ?_
  exact sw_goto dX6_advance_49 (by decide) (k)
theorem b_X6_advance_52 {r0 : Nat} {fs2 : List Value} {a2 : Nat} {fs4 : List Value} {x4 : Int32} {v5 : Int32} {g5 : ab_H} {fs5 : List Value} {fs8 : List Value} {x8 : Int32} {fs10 : List Value} {a10 : Nat} {fs11 : List Value} {x11 : Int32} (hc2 : (h)[r0]? = some (6, fs2)) (hv2 : fs2[0]? = some (.ref a2)) (hc4 : (h)[r0]? = some (6, fs4)) (hv4 : fs4[3]? = some (.int x4)) (hr5 : (h)[a2]? = some (0, fs5)) (hm5 : MSE m_X0_at d [.ref a2, .int x4] h (some (.int v5)) g5) (hc8 : (g5)[r0]? = some (6, fs8)) (hv8 : fs8[3]? = some (.int x8)) (hc10 : (g5)[r0]? = some (6, fs10)) (hv10 : fs10[0]? = some (.ref a10)) (hc11 : (g5)[a10]? = some (0, fs11)) (hv11 : fs11[1]? = some (.int x11)) (kt : x8 < x11 → SW sc m_X6_advance (d + 1) rc rs 94 [some (.ref r0), some (.int v5)] [] g5 P) (kf : ¬ (x8 < x11) → SW sc m_X6_advance (d + 1) rc rs 78 [some (.ref r0), none] [] g5 P) : SW sc m_X6_advance (d + 1) rc rs 52 [some (.ref r0), none] [] h P := by
  refine sw_aload_n dX6_advance_52 rfl ?_
  refine sw_getf dX6_advance_53 lf_X6_12 hc2 hv2 ?_
  refine sw_aload_n dX6_advance_56 rfl ?_
  refine sw_getf dX6_advance_57 lf_X6_125 hc4 hv4 ?_
  refine sw_cV (M := m_X6_advance) dX6_advance_60 lv_X6_133 hm5 hr5 rfl (by decide) rfl rfl rfl (Nat.le_of_ble_eq_true rfl) (fun _ _ => rfl) rfl ?_
  show SW sc m_X6_advance _ _ _ 63 [some (.ref r0), none] [.int v5] g5 P
  refine sw_istore_n dX6_advance_63 (by decide) rfl ?_
  show SW sc m_X6_advance _ _ _ 64 [some (.ref r0), some (.int v5)] [] g5 P
  refine sw_aload_n dX6_advance_64 rfl ?_
  refine sw_getf dX6_advance_65 lf_X6_125 hc8 hv8 ?_
  refine sw_aload_n dX6_advance_68 rfl ?_
  refine sw_getf dX6_advance_69 lf_X6_12 hc10 hv10 ?_
  refine sw_getf dX6_advance_72 lf_X6_140 hc11 hv11 ?_
  exact sw_icmp_lt dX6_advance_75 (by decide) (fun q => (kt q)) (fun q => (sw_fg [false, true] rfl (kf q)))
theorem b_X6_advance_78 {r0 : Nat} {fs3 : List Value} {x3 : Int32} {fs4 : List Value} {fs7 : List Value} (hc3 : (h)[r0]? = some (6, fs3)) (hv3 : fs3[3]? = some (.int x3)) (hc4 : (h)[r0]? = some (6, fs4)) (hk4 : 4 < fs4.length) (hc7 : ((h).set r0 (6, fs4.set 4 (.int x3)))[r0]? = some (6, fs7)) (hk7 : 5 < fs7.length) (k : SW sc m_X6_advance d rc rs 147 [none, none] [] (((h).set r0 (6, fs4.set 4 (.int x3))).set r0 (6, fs7.set 5 (.int 0))) P) : SW sc m_X6_advance d rc rs 78 [some (.ref r0), none] [] h P := by
  refine sw_aload_n dX6_advance_78 rfl ?_
  refine sw_aload_n dX6_advance_79 rfl ?_
  refine sw_getf dX6_advance_80 lf_X6_125 hc3 hv3 ?_
  refine sw_putf dX6_advance_83 lp_X6_32 hc4 hk4 (fun _ _ => ⟨rfl, rfl⟩) ?_
  refine sw_aload_n dX6_advance_86 rfl ?_
  refine sw_iconst (v := 0) dX6_advance_87 (by decide) ?_
  refine sw_putf dX6_advance_88 lp_X6_46 hc7 hk7 (fun _ _ => ⟨rfl, rfl⟩) ?_
  exact sw_goto dX6_advance_91 (by decide) (sw_fg [true, false] rfl (k))
end
