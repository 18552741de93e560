section
variable {sc : Option (List Int32)} {d rc rs : Nat} {h : ab_H} {P : ab_O → ab_H → Prop}
theorem b_X10_ends_0 {r0 : Nat} {fs2 : List Value} {x2 : Int32} (hc2 : (h)[r0]? = some (10, fs2)) (hv2 : fs2[17]? = some (.int x2)) (kt : x2 = 4 → SW sc m_X10_ends d rc rs 14 [some (.ref r0)] [] h P) (kf : ¬ (x2 = 4) → SW sc m_X10_ends d rc rs 8 [some (.ref r0)] [] h P) : SW sc m_X10_ends d rc rs 0 [some (.ref r0)] [] h P := by
  refine sw_aload_n dX10_ends_0 rfl ?_
  refine sw_getf dX10_ends_1 lf_X10_169 hc2 hv2 ?_
  refine sw_iconst (v := 4) dX10_ends_4 (by decide) ?_
  exact sw_icmp_eq dX10_ends_5 (by decide) (fun q => (kt q)) (fun q => (kf q))
theorem b_X10_ends_8 {r0 : Nat} {v3 : Int32} {g3 : ab_H} {fs3 : List Value} (hr3 : (h)[r0]? = some (10, fs3)) (hm3 : MSE m_X10_bad d [.ref r0, .int 1] h (some (.int v3)) g3) (hz4 : narrow .boolean (.int v3) = .int v3) (hP : P (.inl (some (.int v3))) g3) : SW sc m_X10_ends (d + 1) rc rs 8 [some (.ref r0)] [] h P := by
  refine sw_aload_n dX10_ends_8 rfl ?_
  refine sw_iconst (v := 1) dX10_ends_9 (by decide) ?_
  refine sw_cV (M := m_X10_ends) dX10_ends_10 lv_X10_196 hm3 hr3 rfl (by decide) rfl rfl rfl (Nat.le_of_ble_eq_true rfl) (fun _ _ => rfl) rfl ?_
  show SW sc m_X10_ends _ _ _ 13 [some (.ref r0)] [.int v3] g3 P
  exact sw_ret (v := (some (.int v3))) dX10_ends_13 (rt_n hz4) hP
theorem b_X10_ends_14 {r0 : Nat} {g2 : ab_H} {fs2 : List Value} (hr2 : (h)[r0]? = some (10, fs2)) (hm2 : MSE m_X10_go d [.ref r0] h none g2) (hP : P (.inl (some (.int 1))) g2) : SW sc m_X10_ends (d + 1) rc rs 14 [some (.ref r0)] [] h P := by
  refine sw_aload_n dX10_ends_14 rfl ?_
  refine sw_cV (M := m_X10_ends) dX10_ends_15 lv_X10_202 hm2 hr2 rfl (by decide) rfl rfl rfl (Nat.le_of_ble_eq_true rfl) (fun _ _ => rfl) rfl ?_
  show SW sc m_X10_ends _ _ _ 18 [some (.ref r0)] [] g2 P
  refine sw_iconst (v := 1) dX10_ends_18 (by decide) ?_
  exact sw_ret (v := (some (.int 1))) dX10_ends_19 (rt_n (by decide)) hP
theorem b_X10_readsAll_0 {r0 : Nat} {g2 : ab_H} {fs2 : List Value} {v5 : Int32} {g5 : ab_H} {fs5 : List Value} (hr2 : (h)[r0]? = some (10, fs2)) (hm2 : MSE m_X10_go d [.ref r0] h none g2) (hr5 : (g2)[r0]? = some (10, fs5)) (hm5 : MSE m_X10_isWord d [.ref r0, .retAddr 0] g2 (some (.int v5)) g5) (kt : ¬ v5 = 0 → SW sc m_X10_readsAll (d + 1) rc rs 19 [some (.ref r0), none] [] g5 P) (kf : v5 = 0 → SW sc m_X10_readsAll (d + 1) rc rs 13 [some (.ref r0), none] [] g5 P) : SW sc m_X10_readsAll (d + 1) rc rs 0 [some (.ref r0), none] [] h P := by
  refine sw_aload_n dX10_readsAll_0 rfl ?_
  refine sw_cV (M := m_X10_readsAll) dX10_readsAll_1 lv_X10_202 hm2 hr2 rfl (by decide) rfl rfl rfl (Nat.le_of_ble_eq_true rfl) (fun _ _ => rfl) rfl ?_
  show SW sc m_X10_readsAll _ _ _ 4 [some (.ref r0), none] [] g2 P
  refine sw_aload_n dX10_readsAll_4 rfl ?_
  refine sw_ldc (t := 0) dX10_readsAll_5 sr_X10_251 rfl ?_
  refine sw_cV (M := m_X10_readsAll) dX10_readsAll_7 lv_X10_230 hm5 hr5 rfl (by decide) rfl rfl rfl (Nat.le_of_ble_eq_true rfl) (fun _ _ => rfl) rfl ?_
  show SW sc m_X10_readsAll _ _ _ 10 [some (.ref r0), none] [.int v5] g5 P
  exact sw_if_ne dX10_readsAll_10 (by decide) (fun q => (kt q)) (fun q => (kf q))
theorem b_X10_readsAll_13 {r0 : Nat} {v3 : Int32} {g3 : ab_H} {fs3 : List Value} (hr3 : (h)[r0]? = some (10, fs3)) (hm3 : MSE m_X10_bad d [.ref r0, .int 1] h (some (.int v3)) g3) (hz4 : narrow .boolean (.int v3) = .int v3) (hP : P (.inl (some (.int v3))) g3) : SW sc m_X10_readsAll (d + 1) rc rs 13 [some (.ref r0), none] [] h P := by
  refine sw_aload_n dX10_readsAll_13 rfl ?_
  refine sw_iconst (v := 1) dX10_readsAll_14 (by decide) ?_
  refine sw_cV (M := m_X10_readsAll) dX10_readsAll_15 lv_X10_196 hm3 hr3 rfl (by decide) rfl rfl rfl (Nat.le_of_ble_eq_true rfl) (fun _ _ => rfl) rfl ?_
  show SW sc m_X10_readsAll _ _ _ 18 [some (.ref r0), none] [.int v3] g3 P
  exact sw_ret (v := (some (.int v3))) dX10_readsAll_18 (rt_n hz4) hP
theorem b_X10_readsAll_19 {r0 : Nat} {g2 : ab_H} {fs2 : List Value} {v6 : Int32} {g6 : ab_H} {fs6 : List Value} (hr2 : (h)[r0]? = some (10, fs2)) (hm2 : MSE m_X10_go d [.ref r0] h none g2) (hr6 : (g2)[r0]? = some (10, fs6)) (hm6 : MSE m_X10_reads d [.ref r0, .int 1, .int 10] g2 (some (.int v6)) g6) (kt : ¬ v6 = 0 → SW sc m_X10_readsAll (d + 1) rc rs 35 [some (.ref r0), none] [] g6 P) (kf : v6 = 0 → SW sc m_X10_readsAll (d + 1) rc rs 33 [none, none] [] g6 P) : SW sc m_X10_readsAll (d + 1) rc rs 19 [some (.ref r0), none] [] h P := by
  refine sw_aload_n dX10_readsAll_19 rfl ?_
  refine sw_cV (M := m_X10_readsAll) dX10_readsAll_20 lv_X10_202 hm2 hr2 rfl (by decide) rfl rfl rfl (Nat.le_of_ble_eq_true rfl) (fun _ _ => rfl) rfl ?_
  show SW sc m_X10_readsAll _ _ _ 23 [some (.ref r0), none] [] g2 P
  refine sw_aload_n dX10_readsAll_23 rfl ?_
  refine sw_iconst (v := 1) dX10_readsAll_24 (by decide) ?_
  refine sw_bipush (v := 10) dX10_readsAll_25 (by decide) ?_
  refine sw_cV (M := m_X10_readsAll) dX10_readsAll_27 lv_X10_209 hm6 hr6 rfl (by decide) rfl rfl rfl (Nat.le_of_ble_eq_true rfl) (fun _ _ => rfl) rfl ?_
  show SW sc m_X10_readsAll _ _ _ 30 [some (.ref r0), none] [.int v6] g6 P
  exact sw_if_ne dX10_readsAll_30 (by decide) (fun q => (kt q)) (fun q => (sw_fg [true, false] rfl (kf q)))
theorem b_X10_readsAll_33  (hP : P (.inl (some (.int 0))) h) : SW sc m_X10_readsAll d rc rs 33 [none, none] [] h P := by
  refine sw_iconst (v := 0) dX10_readsAll_33 (by decide) ?_
  exact sw_ret (v := (some (.int 0))) dX10_readsAll_34 (rt_n (by decide)) hP
theorem b_X10_readsAll_35 {r0 : Nat} {fs3 : List Value} {x3 : Int32} {fs4 : List Value} {v6 : Int32} {g6 : ab_H} {fs6 : List Value} (hc3 : (h)[r0]? = some (10, fs3)) (hv3 : fs3[21]? = some (.int x3)) (hc4 : (h)[r0]? = some (10, fs4)) (hk4 : 10 < fs4.length) (hr6 : ((h).set r0 (10, fs4.set 10 (.int x3)))[r0]? = some (10, fs6)) (hm6 : MSE m_X10_ends d [.ref r0] ((h).set r0 (10, fs4.set 10 (.int x3))) (some (.int v6)) g6) (kt : ¬ v6 = 0 → SW sc m_X10_readsAll (d + 1) rc rs 52 [some (.ref r0), none] [] g6 P) (kf : v6 = 0 → SW sc m_X10_readsAll (d + 1) rc rs 50 [none, none] [] g6 P) : SW sc m_X10_readsAll (d + 1) rc rs 35 [some (.ref r0), none] [] h P := by
  refine sw_aload_n dX10_readsAll_35 rfl ?_
  refine sw_aload_n dX10_readsAll_36 rfl ?_
  refine sw_getf dX10_readsAll_37 lf_X10_199 hc3 hv3 ?_
  refine sw_putf dX10_readsAll_40 lp_X10_60 hc4 hk4 (fun _ _ => ⟨rfl, rfl⟩) ?_
  refine sw_aload_n dX10_readsAll_43 rfl ?_
  refine sw_cV (M := m_X10_readsAll) dX10_readsAll_44 lv_X10_253 hm6 hr6 rfl (by decide) rfl rfl rfl (Nat.le_of_ble_eq_true rfl) (fun _ _ => rfl) rfl ?_
  show SW sc m_X10_readsAll _ _ _ 47 [some (.ref r0), none] [.int v6] g6 P
  exact sw_if_ne dX10_readsAll_47 (by decide) (fun q => (kt q)) (fun q => (sw_fg [true, false] rfl (kf q)))
theorem b_X10_readsAll_50  (hP : P (.inl (some (.int 0))) h) : SW sc m_X10_readsAll d rc rs 50 [none, none] [] h P := by
  refine sw_iconst (v := 0) dX10_readsAll_50 (by decide) ?_
  exact sw_ret (v := (some (.int 0))) dX10_readsAll_51 (rt_n (by decide)) hP
theorem b_X10_readsAll_52 {r0 : Nat} (k : SW sc m_X10_readsAll d rc rs 54 [some (.ref r0), some (.int 0)] [] h P) : SW sc m_X10_readsAll d rc rs 52 [some (.ref r0), none] [] h P := by
  refine sw_iconst (v := 0) dX10_readsAll_52 (by decide) ?_
  refine sw_istore_n dX10_readsAll_53 (by decide) rfl ?_
  show SW sc m_X10_readsAll _ _ _ 54 [some (.ref r0), some (.int 0)] [] h P
  exact (k)
theorem b_X10_readsAll_54 {r0 : Nat} {l1 : Int32} (kt : 10 ≤ l1 → SW sc m_X10_readsAll d rc rs 95 [some (.ref r0), none] [] h P) (kf : ¬ (10 ≤ l1) → SW sc m_X10_readsAll d rc rs 60 [some (.ref r0), some (.int l1)] [] h P) : SW sc m_X10_readsAll d rc rs 54 [some (.ref r0), some (.int l1)] [] h P := by
  refine sw_iload_n dX10_readsAll_54 rfl ?_
  refine sw_bipush (v := 10) dX10_readsAll_55 (by decide) ?_
  exact sw_icmp_ge dX10_readsAll_57 (by decide) (fun q => (sw_fg [false, true] rfl (kt q))) (fun q => (kf q))
theorem b_X10_readsAll_60 {r0 : Nat} {l1 : Int32} {fs2 : List Value} {a2 : Nat} {vs5 : List Value} {fs7 : List Value} {a7 : Nat} {fs13 : List Value} {x13 : Int32} (hc2 : (h)[r0]? = some (10, fs2)) (hv2 : fs2[2]? = some (.ref a2)) (hc5 : (h)[a2]? = some (100, vs5)) (ho5 : ¬ l1 < 0) (hl5 : l1.toNatClampNeg < vs5.length) (hc7 : ((h).set a2 (100, vs5.set l1.toNatClampNeg (.int 0)))[r0]? = some (10, fs7)) (hv7 : fs7[2]? = some (.ref a7)) (hc13 : ((h).set a2 (100, vs5.set l1.toNatClampNeg (.int 0)))[r0]? = some (10, fs13)) (hv13 : fs13[10]? = some (.int x13)) (kt : x13 ≤ l1 → SW sc m_X10_readsAll d rc rs 87 [some (.ref r0), some (.int l1)] [.int (10 + l1), .ref a7] ((h).set a2 (100, vs5.set l1.toNatClampNeg (.int 0))) P) (kf : ¬ (x13 ≤ l1) → SW sc m_X10_readsAll d rc rs 83 [some (.ref r0), some (.int l1)] [.int (10 + l1), .ref a7] ((h).set a2 (100, vs5.set l1.toNatClampNeg (.int 0))) P) : SW sc m_X10_readsAll d rc rs 60 [some (.ref r0), some (.int l1)] [] h P := by
  refine sw_aload_n dX10_readsAll_60 rfl ?_
  refine sw_getf dX10_readsAll_61 lf_X10_23 hc2 hv2 ?_
  refine sw_iload_n dX10_readsAll_64 rfl ?_
  refine sw_iconst (v := 0) dX10_readsAll_65 (by decide) ?_
  refine sw_iast dX10_readsAll_66 hc5 ho5 hl5 ?_
  refine sw_aload_n dX10_readsAll_67 rfl ?_
  refine sw_getf dX10_readsAll_68 lf_X10_23 hc7 hv7 ?_
  refine sw_bipush (v := 10) dX10_readsAll_71 (by decide) ?_
  refine sw_iload_n dX10_readsAll_73 rfl ?_
  refine sw_iadd dX10_readsAll_74 ?_
  refine sw_iload_n dX10_readsAll_75 rfl ?_
  refine sw_aload_n dX10_readsAll_76 rfl ?_
  refine sw_getf dX10_readsAll_77 lf_X10_60 hc13 hv13 ?_
  exact sw_icmp_ge dX10_readsAll_80 (by decide) (fun q => (kt q)) (fun q => (kf q))
theorem b_X10_readsAll_83 {r0 : Nat} {l1 : Int32} {q0 : Nat} {s1 : Int32} (k : SW sc m_X10_readsAll d rc rs 88 [some (.ref r0), some (.int l1)] [.int 1, .int s1, .ref q0] h P) : SW sc m_X10_readsAll d rc rs 83 [some (.ref r0), some (.int l1)] [.int s1, .ref q0] h P := by
  refine sw_iconst (v := 1) dX10_readsAll_83 (by decide) ?_
  exact sw_goto dX10_readsAll_84 (by decide) (k)
theorem b_X10_readsAll_87 {r0 : Nat} {l1 : Int32} {q0 : Nat} {s1 : Int32} (k : SW sc m_X10_readsAll d rc rs 88 [some (.ref r0), some (.int l1)] [.int 0, .int s1, .ref q0] h P) : SW sc m_X10_readsAll d rc rs 87 [some (.ref r0), some (.int l1)] [.int s1, .ref q0] h P := by
  refine sw_iconst (v := 0) dX10_readsAll_87 (by decide) ?_
  exact (k)
theorem b_X10_readsAll_88 {r0 : Nat} {l1 : Int32} {q0 : Nat} {s1 : Int32} {s2 : Int32} {vs1 : List Value} (hc1 : (h)[q0]? = some (100, vs1)) (ho1 : ¬ s1 < 0) (hl1 : s1.toNatClampNeg < vs1.length) (k : SW sc m_X10_readsAll d rc rs 54 [some (.ref r0), some (.int (l1 + 1))] [] ((h).set q0 (100, vs1.set s1.toNatClampNeg (.int s2))) P) : SW sc m_X10_readsAll d rc rs 88 [some (.ref r0), some (.int l1)] [.int s2, .int s1, .ref q0] h P := by
  refine sw_iast dX10_readsAll_88 hc1 ho1 hl1 ?_
  refine sw_iinc (v := l1 + 1) dX10_readsAll_89 rfl rfl (by decide) rfl ?_
  show SW sc m_X10_readsAll _ _ _ 92 [some (.ref r0), some (.int (l1 + 1))] [] ((h).set q0 (100, vs1.set s1.toNatClampNeg (.int s2))) P
  exact sw_goto dX10_readsAll_92 (by decide) (k)
theorem b_X10_readsAll_95 {r0 : Nat} {fs2 : List Value} {x2 : Int32} (hc2 : (h)[r0]? = some (10, fs2)) (hv2 : fs2[17]? = some (.int x2)) (kt : x2 = 0 → SW sc m_X10_readsAll d rc rs 118 [none, none] [] h P) (kf : ¬ (x2 = 0) → SW sc m_X10_readsAll d rc rs 102 [some (.ref r0), none] [] h P) : SW sc m_X10_readsAll d rc rs 95 [some (.ref r0), none] [] h P := by
  refine sw_aload_n dX10_readsAll_95 rfl ?_
  refine sw_getf dX10_readsAll_96 lf_X10_169 hc2 hv2 ?_
  exact sw_if_eq dX10_readsAll_99 (by decide) (fun q => (sw_fg [true, false] rfl (kt q))) (fun q => (kf q))
theorem b_X10_readsAll_102 {r0 : Nat} {v2 : Int32} {g2 : ab_H} {fs2 : List Value} (hr2 : (h)[r0]? = some (10, fs2)) (hm2 : MSE m_X10_readsStatement d [.ref r0] h (some (.int v2)) g2) (kt : v2 = 0 → SW sc m_X10_readsAll (d + 1) rc rs 116 [none, none] [] g2 P) (kf : ¬ (v2 = 0) → SW sc m_X10_readsAll (d + 1) rc rs 109 [some (.ref r0), none] [] g2 P) : SW sc m_X10_readsAll (d + 1) rc rs 102 [some (.ref r0), none] [] h P := by
  refine sw_aload_n dX10_readsAll_102 rfl ?_
  refine sw_cV (M := m_X10_readsAll) dX10_readsAll_103 lv_X10_256 hm2 hr2 rfl (by decide) rfl rfl rfl (Nat.le_of_ble_eq_true rfl) (fun _ _ => rfl) rfl ?_
  show SW sc m_X10_readsAll _ _ _ 106 [some (.ref r0), none] [.int v2] g2 P
  exact sw_if_eq dX10_readsAll_106 (by decide) (fun q => (sw_fg [true, false] rfl (kt q))) (fun q => (kf q))
theorem b_X10_readsAll_109 {r0 : Nat} {v2 : Int32} {g2 : ab_H} {fs2 : List Value} (hr2 : (h)[r0]? = some (10, fs2)) (hm2 : MSE m_X10_ends d [.ref r0] h (some (.int v2)) g2) (kt : ¬ v2 = 0 → SW sc m_X10_readsAll (d + 1) rc rs 95 [some (.ref r0), none] [] g2 P) (kf : v2 = 0 → SW sc m_X10_readsAll (d + 1) rc rs 116 [none, none] [] g2 P) : SW sc m_X10_readsAll (d + 1) rc rs 109 [some (.ref r0), none] [] h P := by
  refine sw_aload_n dX10_readsAll_109 rfl ?_
  refine sw_cV (M := m_X10_readsAll) dX10_readsAll_110 lv_X10_253 hm2 hr2 rfl (by decide) rfl rfl rfl (Nat.le_of_ble_eq_true rfl) (fun _ _ => rfl) rfl ?_
  show SW sc m_X10_readsAll _ _ _ 113 [some (.ref r0), none] [.int v2] g2 P
  exact sw_if_ne dX10_readsAll_113 (by decide) (fun q => (kt q)) (fun q => (sw_fg [true, false] rfl (kf q)))
theorem b_X10_readsAll_116  (hP : P (.inl (some (.int 0))) h) : SW sc m_X10_readsAll d rc rs 116 [none, none] [] h P := by
  refine sw_iconst (v := 0) dX10_readsAll_116 (by decide) ?_
  exact sw_ret (v := (some (.int 0))) dX10_readsAll_117 (rt_n (by decide)) hP
theorem b_X10_readsAll_118  (hP : P (.inl (some (.int 1))) h) : SW sc m_X10_readsAll d rc rs 118 [none, none] [] h P := by
  refine sw_iconst (v := 1) dX10_readsAll_118 (by decide) ?_
  exact sw_ret (v := (some (.int 1))) dX10_readsAll_119 (rt_n (by decide)) hP
theorem b_X10_load_0 {r0 : Nat} {fs3 : List Value} {fs6 : List Value} {x6 : Int32} {fs7 : List Value} {fs10 : List Value} {fs13 : List Value} {fs16 : List Value} {v18 : Int32} {g18 : ab_H} {fs18 : List Value} {fs22 : List Value} (hc3 : (h)[r0]? = some (10, fs3)) (hk3 : 0 < fs3.length) (hc6 : ((h).set r0 (10, fs3.set 0 (.int 0)))[r0]? = some (10, fs6)) (hv6 : fs6[13]? = some (.int x6)) (hc7 : ((h).set r0 (10, fs3.set 0 (.int 0)))[r0]? = some (10, fs7)) (hk7 : 14 < fs7.length) (hc10 : (((h).set r0 (10, fs3.set 0 (.int 0))).set r0 (10, fs7.set 14 (.int x6)))[r0]? = some (10, fs10)) (hk10 : 13 < fs10.length) (hc13 : ((((h).set r0 (10, fs3.set 0 (.int 0))).set r0 (10, fs7.set 14 (.int x6))).set r0 (10, fs10.set 13 (.int 0)))[r0]? = some (10, fs13)) (hk13 : 15 < fs13.length) (hc16 : (((((h).set r0 (10, fs3.set 0 (.int 0))).set r0 (10, fs7.set 14 (.int x6))).set r0 (10, fs10.set 13 (.int 0))).set r0 (10, fs13.set 15 (.int 0)))[r0]? = some (10, fs16)) (hk16 : 9 < fs16.length) (hz16 : narrow .boolean (.int 1) = .int 1 ∧ fits .boolean (.int 1) = true) (hr18 : ((((((h).set r0 (10, fs3.set 0 (.int 0))).set r0 (10, fs7.set 14 (.int x6))).set r0 (10, fs10.set 13 (.int 0))).set r0 (10, fs13.set 15 (.int 0))).set r0 (10, fs16.set 9 (.int 1)))[r0]? = some (10, fs18)) (hm18 : MSE m_X10_readsAll d [.ref r0] ((((((h).set r0 (10, fs3.set 0 (.int 0))).set r0 (10, fs7.set 14 (.int x6))).set r0 (10, fs10.set 13 (.int 0))).set r0 (10, fs13.set 15 (.int 0))).set r0 (10, fs16.set 9 (.int 1))) (some (.int v18)) g18) (hc22 : (g18)[r0]? = some (10, fs22)) (hk22 : 9 < fs22.length) (hz22 : narrow .boolean (.int 0) = .int 0 ∧ fits .boolean (.int 0) = true) (kt : ¬ v18 = 0 → SW sc m_X10_load (d + 1) rc rs 56 [some (.ref r0), none, none] [] ((g18).set r0 (10, fs22.set 9 (.int 0))) P) (kf : v18 = 0 → SW sc m_X10_load (d + 1) rc rs 42 [some (.ref r0), none, none] [] ((g18).set r0 (10, fs22.set 9 (.int 0))) P) : SW sc m_X10_load (d + 1) rc rs 0 [some (.ref r0), none, none] [] h P := by
  refine sw_aload_n dX10_load_0 rfl ?_
  refine sw_iconst (v := 0) dX10_load_1 (by decide) ?_
  refine sw_putf dX10_load_2 lp_X10_1 hc3 hk3 (fun _ _ => ⟨rfl, rfl⟩) ?_
  refine sw_aload_n dX10_load_5 rfl ?_
  refine sw_aload_n dX10_load_6 rfl ?_
  refine sw_getf dX10_load_7 lf_X10_146 hc6 hv6 ?_
  refine sw_putf dX10_load_10 lp_X10_157 hc7 hk7 (fun _ _ => ⟨rfl, rfl⟩) ?_
  refine sw_aload_n dX10_load_13 rfl ?_
  refine sw_iconst (v := 0) dX10_load_14 (by decide) ?_
  refine sw_putf dX10_load_15 lp_X10_146 hc10 hk10 (fun _ _ => ⟨rfl, rfl⟩) ?_
  refine sw_aload_n dX10_load_18 rfl ?_
  refine sw_iconst (v := 0) dX10_load_19 (by decide) ?_
  refine sw_putf dX10_load_20 lp_X10_160 hc13 hk13 (fun _ _ => ⟨rfl, rfl⟩) ?_
  refine sw_aload_n dX10_load_23 rfl ?_
  refine sw_iconst (v := 1) dX10_load_24 (by decide) ?_
  refine sw_putf dX10_load_25 lp_X10_56 hc16 hk16 (fun _ _ => hz16) ?_
  refine sw_aload_n dX10_load_28 rfl ?_
  refine sw_cV (M := m_X10_load) dX10_load_29 lv_X10_259 hm18 hr18 rfl (by decide) rfl rfl rfl (Nat.le_of_ble_eq_true rfl) (fun _ _ => rfl) rfl ?_
  show SW sc m_X10_load _ _ _ 32 [some (.ref r0), none, none] [.int v18] g18 P
  refine sw_istore_n dX10_load_32 (by decide) rfl ?_
  show SW sc m_X10_load _ _ _ 33 [some (.ref r0), some (.int v18), none] [] g18 P
  refine sw_aload_n dX10_load_33 rfl ?_
  refine sw_iconst (v := 0) dX10_load_34 (by decide) ?_
  refine sw_putf dX10_load_35 lp_X10_56 hc22 hk22 (fun _ _ => hz22) ?_
  refine sw_iload_n dX10_load_38 rfl ?_
  exact sw_if_ne dX10_load_39 (by decide) (fun q => (sw_fg [false, true, false] rfl (kt q))) (fun q => (sw_fg [false, true, false] rfl (kf q)))
theorem b_X10_load_42 {r0 : Nat} {fs3 : List Value} {x3 : Int32} {fs6 : List Value} {x6 : Int32} (hc3 : (h)[r0]? = some (10, fs3)) (hv3 : fs3[20]? = some (.int x3)) (hc6 : (h)[r0]? = some (10, fs6)) (hv6 : fs6[19]? = some (.int x6)) (hP : P (.inl (some (.int (-((8 * x3) + x6))))) h) : SW sc m_X10_load d rc rs 42 [some (.ref r0), none, none] [] h P := by
  refine sw_bipush (v := 8) dX10_load_42 (by decide) ?_
  refine sw_aload_n dX10_load_44 rfl ?_
  refine sw_getf dX10_load_45 lf_X10_193 hc3 hv3 ?_
  refine sw_imul dX10_load_48 ?_
  refine sw_aload_n dX10_load_49 rfl ?_
  refine sw_getf dX10_load_50 lf_X10_190 hc6 hv6 ?_
  refine sw_iadd dX10_load_53 ?_
  refine sw_ineg dX10_load_54 ?_
  exact sw_ret (v := (some (.int (-((8 * x3) + x6))))) dX10_load_55 rt_i hP
theorem b_X10_load_56 {r0 : Nat} {fs3 : List Value} {x3 : Int32} {fs4 : List Value} (hc3 : (h)[r0]? = some (10, fs3)) (hv3 : fs3[10]? = some (.int x3)) (hc4 : (h)[r0]? = some (10, fs4)) (hk4 : 6 < fs4.length) (k : SW sc m_X10_load d rc rs 66 [some (.ref r0), none, some (.int 0)] [] ((h).set r0 (10, fs4.set 6 (.int x3))) P) : SW sc m_X10_load d rc rs 56 [some (.ref r0), none, none] [] h P := by
  refine sw_aload_n dX10_load_56 rfl ?_
  refine sw_aload_n dX10_load_57 rfl ?_
  refine sw_getf dX10_load_58 lf_X10_60 hc3 hv3 ?_
  refine sw_putf dX10_load_61 lp_X10_35 hc4 hk4 (fun _ _ => ⟨rfl, rfl⟩) ?_
  refine sw_iconst (v := 0) dX10_load_64 (by decide) ?_
  refine sw_istore_n dX10_load_65 (by decide) rfl ?_
  show SW sc m_X10_load _ _ _ 66 [some (.ref r0), none, some (.int 0)] [] ((h).set r0 (10, fs4.set 6 (.int x3))) P
  exact (k)
theorem b_X10_load_66 {r0 : Nat} {l2 : Int32} (kt : 20 ≤ l2 → SW sc m_X10_load d rc rs 90 [some (.ref r0), none, none] [] h P) (kf : ¬ (20 ≤ l2) → SW sc m_X10_load d rc rs 72 [some (.ref r0), none, some (.int l2)] [] h P) : SW sc m_X10_load d rc rs 66 [some (.ref r0), none, some (.int l2)] [] h P := by
  refine sw_iload_n dX10_load_66 rfl ?_
  refine sw_bipush (v := 20) dX10_load_67 (by decide) ?_
  exact sw_icmp_ge dX10_load_69 (by decide) (fun q => (sw_fg [false, false, true] rfl (kt q))) (fun q => (kf q))
theorem b_X10_load_72 {r0 : Nat} {l2 : Int32} {fs2 : List Value} {a2 : Nat} {fs5 : List Value} {a5 : Nat} {vs7 : List Value} {x7 : Int32} {vs8 : List Value} (hc2 : (h)[r0]? = some (10, fs2)) (hv2 : fs2[1]? = some (.ref a2)) (hc5 : (h)[r0]? = some (10, fs5)) (hv5 : fs5[2]? = some (.ref a5)) (hc7 : (h)[a5]? = some (100, vs7)) (ho7 : ¬ l2 < 0) (hi7 : vs7[l2.toNatClampNeg]? = some (.int x7)) (hc8 : (h)[a2]? = some (100, vs8)) (ho8 : ¬ l2 < 0) (hl8 : l2.toNatClampNeg < vs8.length) (k : SW sc m_X10_load d rc rs 66 [some (.ref r0), none, some (.int (l2 + 1))] [] ((h).set a2 (100, vs8.set l2.toNatClampNeg (.int x7))) P) : SW sc m_X10_load d rc rs 72 [some (.ref r0), none, some (.int l2)] [] h P := by
  refine sw_aload_n dX10_load_72 rfl ?_
  refine sw_getf dX10_load_73 lf_X10_19 hc2 hv2 ?_
  refine sw_iload_n dX10_load_76 rfl ?_
  refine sw_aload_n dX10_load_77 rfl ?_
  refine sw_getf dX10_load_78 lf_X10_23 hc5 hv5 ?_
  refine sw_iload_n dX10_load_81 rfl ?_
  refine sw_iald dX10_load_82 hc7 ho7 hi7 ?_
  refine sw_iast dX10_load_83 hc8 ho8 hl8 ?_
  refine sw_iinc (v := l2 + 1) dX10_load_84 rfl rfl (by decide) rfl ?_
  show SW sc m_X10_load _ _ _ 87 [some (.ref r0), none, some (.int (l2 + 1))] [] ((h).set a2 (100, vs8.set l2.toNatClampNeg (.int x7))) P
  exact sw_goto dX10_load_87 (by decide) (k)
theorem b_X10_load_90 {r0 : Nat} (k : SW sc m_X10_load d rc rs 92 [some (.ref r0), none, some (.int 0)] [] h P) : SW sc m_X10_load d rc rs 90 [some (.ref r0), none, none] [] h P := by
  refine sw_iconst (v := 0) dX10_load_90 (by decide) ?_
  refine sw_istore_n dX10_load_91 (by decide) rfl ?_
  show SW sc m_X10_load _ _ _ 92 [some (.ref r0), none, some (.int 0)] [] h P
  exact (k)
theorem b_X10_load_92 {r0 : Nat} {l2 : Int32} (kt : 10 ≤ l2 → SW sc m_X10_load d rc rs 111 [some (.ref r0), none, none] [] h P) (kf : ¬ (10 ≤ l2) → SW sc m_X10_load d rc rs 98 [some (.ref r0), none, some (.int l2)] [] h P) : SW sc m_X10_load d rc rs 92 [some (.ref r0), none, some (.int l2)] [] h P := by
  refine sw_iload_n dX10_load_92 rfl ?_
  refine sw_bipush (v := 10) dX10_load_93 (by decide) ?_
  exact sw_icmp_ge dX10_load_95 (by decide) (fun q => (sw_fg [false, false, true] rfl (kt q))) (fun q => (kf q))
theorem b_X10_load_98 {r0 : Nat} {l2 : Int32} {fs2 : List Value} {a2 : Nat} {vs5 : List Value} (hc2 : (h)[r0]? = some (10, fs2)) (hv2 : fs2[5]? = some (.ref a2)) (hc5 : (h)[a2]? = some (100, vs5)) (ho5 : ¬ l2 < 0) (hl5 : l2.toNatClampNeg < vs5.length) (k : SW sc m_X10_load d rc rs 92 [some (.ref r0), none, some (.int (l2 + 1))] [] ((h).set a2 (100, vs5.set l2.toNatClampNeg (.int 0))) P) : SW sc m_X10_load d rc rs 98 [some (.ref r0), none, some (.int l2)] [] h P := by
  refine sw_aload_n dX10_load_98 rfl ?_
  refine sw_getf dX10_load_99 lf_X10_32 hc2 hv2 ?_
  refine sw_iload_n dX10_load_102 rfl ?_
  refine sw_iconst (v := 0) dX10_load_103 (by decide) ?_
  refine sw_iast dX10_load_104 hc5 ho5 hl5 ?_
  refine sw_iinc (v := l2 + 1) dX10_load_105 rfl rfl (by decide) rfl ?_
  show SW sc m_X10_load _ _ _ 108 [some (.ref r0), none, some (.int (l2 + 1))] [] ((h).set a2 (100, vs5.set l2.toNatClampNeg (.int 0))) P
  exact sw_goto dX10_load_108 (by decide) (k)
theorem b_X10_load_111 {r0 : Nat} {fs3 : List Value} {fs6 : List Value} {v8 : Int32} {g8 : ab_H} {fs8 : List Value} (hc3 : (h)[r0]? = some (10, fs3)) (hk3 : 7 < fs3.length) (hc6 : ((h).set r0 (10, fs3.set 7 (.int 0)))[r0]? = some (10, fs6)) (hk6 : 8 < fs6.length) (hr8 : (((h).set r0 (10, fs3.set 7 (.int 0))).set r0 (10, fs6.set 8 (.int 0)))[r0]? = some (10, fs8)) (hm8 : MSE m_X10_edges d [.ref r0] (((h).set r0 (10, fs3.set 7 (.int 0))).set r0 (10, fs6.set 8 (.int 0))) (some (.int v8)) g8) (hP : P (.inl (some (.int v8))) g8) : SW sc m_X10_load (d + 1) rc rs 111 [some (.ref r0), none, none] [] h P := by
  refine sw_aload_n dX10_load_111 rfl ?_
  refine sw_iconst (v := 0) dX10_load_112 (by decide) ?_
  refine sw_putf dX10_load_113 lp_X10_63 hc3 hk3 (fun _ _ => ⟨rfl, rfl⟩) ?_
  refine sw_aload_n dX10_load_116 rfl ?_
  refine sw_iconst (v := 0) dX10_load_117 (by decide) ?_
  refine sw_putf dX10_load_118 lp_X10_262 hc6 hk6 (fun _ _ => ⟨rfl, rfl⟩) ?_
  refine sw_aload_n dX10_load_121 rfl ?_
  refine sw_cV (M := m_X10_load) dX10_load_122 lv_X10_265 hm8 hr8 rfl (by decide) rfl rfl rfl (Nat.le_of_ble_eq_true rfl) (fun _ _ => rfl) rfl ?_
  show SW sc m_X10_load _ _ _ 125 [some (.ref r0), none, none] [.int v8] g8 P
  exact sw_ret (v := (some (.int v8))) dX10_load_125 rt_i hP
theorem b_X10_edges_0 {r0 : Nat} (k : SW sc m_X10_edges d rc rs 4 [some (.ref r0), some (.int 0), some (.int 0)] [] h P) : SW sc m_X10_edges d rc rs 0 [some (.ref r0), none, none] [] h P := by
  refine sw_iconst (v := 0) dX10_edges_0 (by decide) ?_
  refine sw_istore_n dX10_edges_1 (by decide) rfl ?_
  show SW sc m_X10_edges _ _ _ 2 [some (.ref r0), some (.int 0), none] [] h P
  refine sw_iconst (v := 0) dX10_edges_2 (by decide) ?_
  refine sw_istore_n dX10_edges_3 (by decide) rfl ?_
  show SW sc m_X10_edges _ _ _ 4 [some (.ref r0), some (.int 0), some (.int 0)] [] h P
  exact (k)
theorem b_X10_edges_4 {r0 : Nat} {l1 : Int32} {l2 : Int32} {fs3 : List Value} {x3 : Int32} (hc3 : (h)[r0]? = some (10, fs3)) (hv3 : fs3[6]? = some (.int x3)) (kt : x3 ≤ l2 → SW sc m_X10_edges d rc rs 30 [none, some (.int l1), none] [] h P) (kf : ¬ (x3 ≤ l2) → SW sc m_X10_edges d rc rs 12 [some (.ref r0), some (.int l1), some (.int l2)] [] h P) : SW sc m_X10_edges d rc rs 4 [some (.ref r0), some (.int l1), some (.int l2)] [] h P := by
  refine sw_iload_n dX10_edges_4 rfl ?_
  refine sw_aload_n dX10_edges_5 rfl ?_
  refine sw_getf dX10_edges_6 lf_X10_35 hc3 hv3 ?_
  exact sw_icmp_ge dX10_edges_9 (by decide) (fun q => (sw_fg [true, false, true] rfl (kt q))) (fun q => (kf q))
theorem b_X10_edges_12 {r0 : Nat} {l1 : Int32} {l2 : Int32} {fs3 : List Value} {a3 : Nat} {vs5 : List Value} {x5 : Int32} {v6 : Int32} {g6 : ab_H} (hc3 : (h)[r0]? = some (10, fs3)) (hv3 : fs3[1]? = some (.ref a3)) (hc5 : (h)[a3]? = some (100, vs5)) (ho5 : ¬ l2 < 0) (hi5 : vs5[l2.toNatClampNeg]? = some (.int x5)) (hm6 : MSE m_X10_ones d [.int x5] h (some (.int v6)) g6) (k : SW sc m_X10_edges (d + 1) rc rs 4 [some (.ref r0), some (.int (l1 + v6)), some (.int (l2 + 1))] [] g6 P) : SW sc m_X10_edges (d + 1) rc rs 12 [some (.ref r0), some (.int l1), some (.int l2)] [] h P := by
  refine sw_iload_n dX10_edges_12 rfl ?_
  refine sw_aload_n dX10_edges_13 rfl ?_
  refine sw_getf dX10_edges_14 lf_X10_19 hc3 hv3 ?_
  refine sw_iload_n dX10_edges_17 rfl ?_
  refine sw_iald dX10_edges_18 hc5 ho5 hi5 ?_
  refine sw_cS (M := m_X10_edges) dX10_edges_19 ls_X10_111 hm6 rfl rfl (Nat.le_of_ble_eq_true rfl) (fun _ _ => rfl) rfl ?_
  show SW sc m_X10_edges _ _ _ 22 [some (.ref r0), some (.int l1), some (.int l2)] [.int v6, .int l1] g6 P
  refine sw_iadd dX10_edges_22 ?_
  refine sw_istore_n dX10_edges_23 (by decide) rfl ?_
  show SW sc m_X10_edges _ _ _ 24 [some (.ref r0), some (.int (l1 + v6)), some (.int l2)] [] g6 P
  refine sw_iinc (v := l2 + 1) dX10_edges_24 rfl rfl (by decide) rfl ?_
  show SW sc m_X10_edges _ _ _ 27 [some (.ref r0), some (.int (l1 + v6)), some (.int (l2 + 1))] [] g6 P
  exact sw_goto dX10_edges_27 (by decide) (k)
theorem b_X10_edges_30 {l1 : Int32} (hz3 : ¬ (2 : Int32) = 0) (hP : P (.inl (some (.int (l1 / 2)))) h) : SW sc m_X10_edges d rc rs 30 [none, some (.int l1), none] [] h P := by
  refine sw_iload_n dX10_edges_30 rfl ?_
  refine sw_iconst (v := 2) dX10_edges_31 (by decide) ?_
  refine sw_idiv dX10_edges_32 hz3 ?_
  exact sw_ret (v := (some (.int (l1 / 2)))) dX10_edges_33 rt_i hP
theorem b_X10_isVertex_0 {r0 : Nat} {l1 : Int32} {fs4 : List Value} {x4 : Int32} {v7 : Int32} {g7 : ab_H} (hc4 : (h)[r0]? = some (10, fs4)) (hv4 : fs4[6]? = some (.int x4)) (hm7 : MSE m_X10_isIn d [.int l1, .int 0, .int (x4 - 1)] h (some (.int v7)) g7) (hz8 : narrow .boolean (.int v7) = .int v7) (hP : P (.inl (some (.int v7))) g7) : SW sc m_X10_isVertex (d + 1) rc rs 0 [some (.ref r0), some (.int l1)] [] h P := by
  refine sw_iload_n dX10_isVertex_0 rfl ?_
  refine sw_iconst (v := 0) dX10_isVertex_1 (by decide) ?_
  refine sw_aload_n dX10_isVertex_2 rfl ?_
  refine sw_getf dX10_isVertex_3 lf_X10_35 hc4 hv4 ?_
  refine sw_iconst (v := 1) dX10_isVertex_6 (by decide) ?_
  refine sw_isub dX10_isVertex_7 ?_
  refine sw_cS (M := m_X10_isVertex) dX10_isVertex_8 ls_X10_153 hm7 rfl rfl (Nat.le_of_ble_eq_true rfl) (fun _ _ => rfl) rfl ?_
  show SW sc m_X10_isVertex _ _ _ 11 [some (.ref r0), some (.int l1)] [.int v7] g7 P
  exact sw_ret (v := (some (.int v7))) dX10_isVertex_11 (rt_n hz8) hP
theorem b_X10_forest_0 {r0 : Nat} {l1 : Int32} {fs3 : List Value} {fs6 : List Value} {x6 : Int32} (hc3 : (h)[r0]? = some (10, fs3)) (hk3 : 0 < fs3.length) (hc6 : ((h).set r0 (10, fs3.set 0 (.int 0)))[r0]? = some (10, fs6)) (hv6 : fs6[6]? = some (.int x6)) (k0 : l1 = 0 → SW sc m_X10_forest d rc rs 68 [some (.ref r0), none, none, none, none] [] ((h).set r0 (10, fs3.set 0 (.int 0))) P) (k1 : l1 = 1 → SW sc m_X10_forest d rc rs 73 [some (.ref r0), none, none, none, none] [] ((h).set r0 (10, fs3.set 0 (.int 0))) P) (k2 : l1 = 2 → SW sc m_X10_forest d rc rs 78 [some (.ref r0), none, none, none, none] [] ((h).set r0 (10, fs3.set 0 (.int 0))) P) (k3 : l1 = 3 → SW sc m_X10_forest d rc rs 83 [some (.ref r0), none, some (.int ((1 <<< (x6 &&& 31)) - 1)), none, none] [] ((h).set r0 (10, fs3.set 0 (.int 0))) P) (k4 : l1 = 4 → SW sc m_X10_forest d rc rs 89 [some (.ref r0), none, none, some (.int 0), none] [] ((h).set r0 (10, fs3.set 0 (.int 0))) P) (k5 : l1 = 5 → SW sc m_X10_forest d rc rs 127 [some (.ref r0), none, some (.int ((1 <<< (x6 &&& 31)) - 1)), none, none] [] ((h).set r0 (10, fs3.set 0 (.int 0))) P) (k6 : l1 = 6 → SW sc m_X10_forest d rc rs 134 [some (.ref r0), none, none, some (.int 0), none] [] ((h).set r0 (10, fs3.set 0 (.int 0))) P) (k7 : l1 = 7 → SW sc m_X10_forest d rc rs 171 [some (.ref r0), none, none, none, none] [] ((h).set r0 (10, fs3.set 0 (.int 0))) P) (k8 : l1 = 8 → SW sc m_X10_forest d rc rs 176 [some (.ref r0), none, none, none, none] [] ((h).set r0 (10, fs3.set 0 (.int 0))) P) (kd : (∀ i : Nat, i < 9 → ¬ l1 = Int32.ofNat i) → SW sc m_X10_forest d rc rs 181 [none, none, none, none, none] [] ((h).set r0 (10, fs3.set 0 (.int 0))) P) : SW sc m_X10_forest d rc rs 0 [some (.ref r0), some (.int l1), none, none, none] [] h P := by
  refine sw_aload_n dX10_forest_0 rfl ?_
  refine sw_iconst (v := 0) dX10_forest_1 (by decide) ?_
  refine sw_putf dX10_forest_2 lp_X10_1 hc3 hk3 (fun _ _ => ⟨rfl, rfl⟩) ?_
  refine sw_iconst (v := 1) dX10_forest_5 (by decide) ?_
  refine sw_aload_n dX10_forest_6 rfl ?_
  refine sw_getf dX10_forest_7 lf_X10_35 hc6 hv6 ?_
  refine sw_ishl dX10_forest_10 ?_
  refine sw_iconst (v := 1) dX10_forest_11 (by decide) ?_
  refine sw_isub dX10_forest_12 ?_
  refine sw_istore_n dX10_forest_13 (by decide) rfl ?_
  show SW sc m_X10_forest _ _ _ 14 [some (.ref r0), some (.int l1), some (.int ((1 <<< (x6 &&& 31)) - 1)), none, none] [] ((h).set r0 (10, fs3.set 0 (.int 0))) P
  refine sw_iconst (v := 0) dX10_forest_14 (by decide) ?_
  refine sw_istore_n dX10_forest_15 (by decide) rfl ?_
  show SW sc m_X10_forest _ _ _ 16 [some (.ref r0), some (.int l1), some (.int ((1 <<< (x6 &&& 31)) - 1)), some (.int 0), none] [] ((h).set r0 (10, fs3.set 0 (.int 0))) P
  refine sw_iload_n dX10_forest_16 rfl ?_
  by_cases ho : (l1).toInt < 0 ∨ 8 < (l1).toInt
  · exact sw_tableOut (M := m_X10_forest) dX10_forest_17 ho (by decide) (sw_fg [true, true, true, true, false] rfl (kd (ab_swOut (n := 9) (by decide) ho)))
  · obtain ⟨i, hi, hx⟩ := ab_swIn (n := 9) (by decide) ho
    by_cases h0 : i = 0
    · subst h0
      exact sw_tableIn (M := m_X10_forest) (off := 51) dX10_forest_17 (by rw [hx]; decide) (by rw [hx]; decide) (by rw [hx]; decide) (by decide) (sw_fg [false, true, true, true, false] rfl (k0 (by rw [hx]; decide)))
    by_cases h1 : i = 1
    · subst h1
      exact sw_tableIn (M := m_X10_forest) (off := 56) dX10_forest_17 (by rw [hx]; decide) (by rw [hx]; decide) (by rw [hx]; decide) (by decide) (sw_fg [false, true, true, true, false] rfl (k1 (by rw [hx]; decide)))
    by_cases h2 : i = 2
    · subst h2
      exact sw_tableIn (M := m_X10_forest) (off := 61) dX10_forest_17 (by rw [hx]; decide) (by rw [hx]; decide) (by rw [hx]; decide) (by decide) (sw_fg [false, true, true, true, false] rfl (k2 (by rw [hx]; decide)))
    by_cases h3 : i = 3
    · subst h3
      exact sw_tableIn (M := m_X10_forest) (off := 66) dX10_forest_17 (by rw [hx]; decide) (by rw [hx]; decide) (by rw [hx]; decide) (by decide) (sw_fg [false, true, false, true, false] rfl (k3 (by rw [hx]; decide)))
    by_cases h4 : i = 4
    · subst h4
      exact sw_tableIn (M := m_X10_forest) (off := 72) dX10_forest_17 (by rw [hx]; decide) (by rw [hx]; decide) (by rw [hx]; decide) (by decide) (sw_fg [false, true, true, false, false] rfl (k4 (by rw [hx]; decide)))
    by_cases h5 : i = 5
    · subst h5
      exact sw_tableIn (M := m_X10_forest) (off := 110) dX10_forest_17 (by rw [hx]; decide) (by rw [hx]; decide) (by rw [hx]; decide) (by decide) (sw_fg [false, true, false, true, false] rfl (k5 (by rw [hx]; decide)))
    by_cases h6 : i = 6
    · subst h6
      exact sw_tableIn (M := m_X10_forest) (off := 117) dX10_forest_17 (by rw [hx]; decide) (by rw [hx]; decide) (by rw [hx]; decide) (by decide) (sw_fg [false, true, true, false, false] rfl (k6 (by rw [hx]; decide)))
    by_cases h7 : i = 7
    · subst h7
      exact sw_tableIn (M := m_X10_forest) (off := 154) dX10_forest_17 (by rw [hx]; decide) (by rw [hx]; decide) (by rw [hx]; decide) (by decide) (sw_fg [false, true, true, true, false] rfl (k7 (by rw [hx]; decide)))
    by_cases h8 : i = 8
    · subst h8
      exact sw_tableIn (M := m_X10_forest) (off := 159) dX10_forest_17 (by rw [hx]; decide) (by rw [hx]; decide) (by rw [hx]; decide) (by decide) (sw_fg [false, true, true, true, false] rfl (k8 (by rw [hx]; decide)))
    exact absurd hi (by omega)
theorem b_X10_forest_68 {r0 : Nat} {fs2 : List Value} {x2 : Int32} (hc2 : (h)[r0]? = some (10, fs2)) (hv2 : fs2[6]? = some (.int x2)) (hP : P (.inl (some (.int x2))) h) : SW sc m_X10_forest d rc rs 68 [some (.ref r0), none, none, none, none] [] h P := by
  refine sw_aload_n dX10_forest_68 rfl ?_
  refine sw_getf dX10_forest_69 lf_X10_35 hc2 hv2 ?_
  exact sw_ret (v := (some (.int x2))) dX10_forest_72 rt_i hP
theorem b_X10_forest_73 {r0 : Nat} {v2 : Int32} {g2 : ab_H} {fs2 : List Value} (hr2 : (h)[r0]? = some (10, fs2)) (hm2 : MSE m_X10_edges d [.ref r0] h (some (.int v2)) g2) (hP : P (.inl (some (.int v2))) g2) : SW sc m_X10_forest (d + 1) rc rs 73 [some (.ref r0), none, none, none, none] [] h P := by
  refine sw_aload_n dX10_forest_73 rfl ?_
  refine sw_cV (M := m_X10_forest) dX10_forest_74 lv_X10_265 hm2 hr2 rfl (by decide) rfl rfl rfl (Nat.le_of_ble_eq_true rfl) (fun _ _ => rfl) rfl ?_
  show SW sc m_X10_forest _ _ _ 77 [some (.ref r0), none, none, none, none] [.int v2] g2 P
  exact sw_ret (v := (some (.int v2))) dX10_forest_77 rt_i hP
theorem b_X10_forest_78 {r0 : Nat} {v2 : Int32} {g2 : ab_H} {fs2 : List Value} (hr2 : (h)[r0]? = some (10, fs2)) (hm2 : MSE m_X10_componentMany d [.ref r0] h (some (.int v2)) g2) (hP : P (.inl (some (.int v2))) g2) : SW sc m_X10_forest (d + 1) rc rs 78 [some (.ref r0), none, none, none, none] [] h P := by
  refine sw_aload_n dX10_forest_78 rfl ?_
  refine sw_cV (M := m_X10_forest) dX10_forest_79 lv_X10_268 hm2 hr2 rfl (by decide) rfl rfl rfl (Nat.le_of_ble_eq_true rfl) (fun _ _ => rfl) rfl ?_
  show SW sc m_X10_forest _ _ _ 82 [some (.ref r0), none, none, none, none] [.int v2] g2 P
  exact sw_ret (v := (some (.int v2))) dX10_forest_82 rt_i hP
theorem b_X10_forest_83 {r0 : Nat} {l2 : Int32} {v3 : Int32} {g3 : ab_H} {fs3 : List Value} (hr3 : (h)[r0]? = some (10, fs3)) (hm3 : MSE m_X10_leavesIn d [.ref r0, .int l2] h (some (.int v3)) g3) (hP : P (.inl (some (.int v3))) g3) : SW sc m_X10_forest (d + 1) rc rs 83 [some (.ref r0), none, some (.int l2), none, none] [] h P := by
  refine sw_aload_n dX10_forest_83 rfl ?_
  refine sw_iload_n dX10_forest_84 rfl ?_
  refine sw_cV (M := m_X10_forest) dX10_forest_85 lv_X10_271 hm3 hr3 rfl (by decide) rfl rfl rfl (Nat.le_of_ble_eq_true rfl) (fun _ _ => rfl) rfl ?_
  show SW sc m_X10_forest _ _ _ 88 [some (.ref r0), none, some (.int l2), none, none] [.int v3] g3 P
  exact sw_ret (v := (some (.int v3))) dX10_forest_88 rt_i hP
theorem b_X10_forest_89 {r0 : Nat} {l3 : Int32} (k : SW sc m_X10_forest d rc rs 92 [some (.ref r0), none, none, some (.int l3), some (.int 0)] [] h P) : SW sc m_X10_forest d rc rs 89 [some (.ref r0), none, none, some (.int l3), none] [] h P := by
  refine sw_iconst (v := 0) dX10_forest_89 (by decide) ?_
  refine sw_istore dX10_forest_90 (by decide) rfl ?_
  show SW sc m_X10_forest _ _ _ 92 [some (.ref r0), none, none, some (.int l3), some (.int 0)] [] h P
  exact (k)
theorem b_X10_forest_92 {r0 : Nat} {l3 : Int32} {l4 : Int32} {fs3 : List Value} {x3 : Int32} (hc3 : (h)[r0]? = some (10, fs3)) (hv3 : fs3[6]? = some (.int x3)) (kt : x3 ≤ l4 → SW sc m_X10_forest d rc rs 125 [none, none, none, some (.int l3), none] [] h P) (kf : ¬ (x3 ≤ l4) → SW sc m_X10_forest d rc rs 101 [some (.ref r0), none, none, some (.int l3), some (.int l4)] [] h P) : SW sc m_X10_forest d rc rs 92 [some (.ref r0), none, none, some (.int l3), some (.int l4)] [] h P := by
  refine sw_iload dX10_forest_92 rfl ?_
  refine sw_aload_n dX10_forest_94 rfl ?_
  refine sw_getf dX10_forest_95 lf_X10_35 hc3 hv3 ?_
  exact sw_icmp_ge dX10_forest_98 (by decide) (fun q => (sw_fg [true, false, false, false, true] rfl (kt q))) (fun q => (kf q))
theorem b_X10_forest_101 {r0 : Nat} {l3 : Int32} {l4 : Int32} {fs3 : List Value} {a3 : Nat} {vs5 : List Value} {x5 : Int32} (hc3 : (h)[r0]? = some (10, fs3)) (hv3 : fs3[1]? = some (.ref a3)) (hc5 : (h)[a3]? = some (100, vs5)) (ho5 : ¬ l4 < 0) (hi5 : vs5[l4.toNatClampNeg]? = some (.int x5)) (kt : ¬ x5 = 0 → SW sc m_X10_forest d rc rs 116 [some (.ref r0), none, none, none, some (.int l4)] [.int l3] h P) (kf : x5 = 0 → SW sc m_X10_forest d rc rs 112 [some (.ref r0), none, none, none, some (.int l4)] [.int l3] h P) : SW sc m_X10_forest d rc rs 101 [some (.ref r0), none, none, some (.int l3), some (.int l4)] [] h P := by
  refine sw_iload_n dX10_forest_101 rfl ?_
  refine sw_aload_n dX10_forest_102 rfl ?_
  refine sw_getf dX10_forest_103 lf_X10_19 hc3 hv3 ?_
  refine sw_iload dX10_forest_106 rfl ?_
  refine sw_iald dX10_forest_108 hc5 ho5 hi5 ?_
  exact sw_if_ne dX10_forest_109 (by decide) (fun q => (sw_fg [false, false, false, true, false] rfl (kt q))) (fun q => (sw_fg [false, false, false, true, false] rfl (kf q)))
theorem b_X10_forest_112 {r0 : Nat} {l4 : Int32} {s0 : Int32} (k : SW sc m_X10_forest d rc rs 117 [some (.ref r0), none, none, none, some (.int l4)] [.int 1, .int s0] h P) : SW sc m_X10_forest d rc rs 112 [some (.ref r0), none, none, none, some (.int l4)] [.int s0] h P := by
  refine sw_iconst (v := 1) dX10_forest_112 (by decide) ?_
  exact sw_goto dX10_forest_113 (by decide) (k)
theorem b_X10_forest_116 {r0 : Nat} {l4 : Int32} {s0 : Int32} (k : SW sc m_X10_forest d rc rs 117 [some (.ref r0), none, none, none, some (.int l4)] [.int 0, .int s0] h P) : SW sc m_X10_forest d rc rs 116 [some (.ref r0), none, none, none, some (.int l4)] [.int s0] h P := by
  refine sw_iconst (v := 0) dX10_forest_116 (by decide) ?_
  exact (k)
theorem b_X10_forest_117 {r0 : Nat} {l4 : Int32} {s0 : Int32} {s1 : Int32} (k : SW sc m_X10_forest d rc rs 92 [some (.ref r0), none, none, some (.int (s0 + s1)), some (.int (l4 + 1))] [] h P) : SW sc m_X10_forest d rc rs 117 [some (.ref r0), none, none, none, some (.int l4)] [.int s1, .int s0] h P := by
  refine sw_iadd dX10_forest_117 ?_
  refine sw_istore_n dX10_forest_118 (by decide) rfl ?_
  show SW sc m_X10_forest _ _ _ 119 [some (.ref r0), none, none, some (.int (s0 + s1)), some (.int l4)] [] h P
  refine sw_iinc (v := l4 + 1) dX10_forest_119 rfl rfl (by decide) rfl ?_
  show SW sc m_X10_forest _ _ _ 122 [some (.ref r0), none, none, some (.int (s0 + s1)), some (.int (l4 + 1))] [] h P
  exact sw_goto dX10_forest_122 (by decide) (k)
theorem b_X10_forest_125 {l3 : Int32} (hP : P (.inl (some (.int l3))) h) : SW sc m_X10_forest d rc rs 125 [none, none, none, some (.int l3), none] [] h P := by
  refine sw_iload_n dX10_forest_125 rfl ?_
  exact sw_ret (v := (some (.int l3))) dX10_forest_126 rt_i hP
theorem b_X10_forest_127 {r0 : Nat} {l2 : Int32} {v4 : Int32} {g4 : ab_H} {fs4 : List Value} (hr4 : (h)[r0]? = some (10, fs4)) (hm4 : MSE m_X10_weightOf d [.ref r0, .int l2, .int 1] h (some (.int v4)) g4) (hP : P (.inl (some (.int v4))) g4) : SW sc m_X10_forest (d + 1) rc rs 127 [some (.ref r0), none, some (.int l2), none, none] [] h P := by
  refine sw_aload_n dX10_forest_127 rfl ?_
  refine sw_iload_n dX10_forest_128 rfl ?_
  refine sw_iconst (v := 1) dX10_forest_129 (by decide) ?_
  refine sw_cV (M := m_X10_forest) dX10_forest_130 lv_X10_98 hm4 hr4 rfl (by decide) rfl rfl rfl (Nat.le_of_ble_eq_true rfl) (fun _ _ => rfl) rfl ?_
  show SW sc m_X10_forest _ _ _ 133 [some (.ref r0), none, some (.int l2), none, none] [.int v4] g4 P
  exact sw_ret (v := (some (.int v4))) dX10_forest_133 rt_i hP
theorem b_X10_forest_134 {r0 : Nat} {l3 : Int32} (k : SW sc m_X10_forest d rc rs 137 [some (.ref r0), none, none, some (.int l3), some (.int 0)] [] h P) : SW sc m_X10_forest d rc rs 134 [some (.ref r0), none, none, some (.int l3), none] [] h P := by
  refine sw_iconst (v := 0) dX10_forest_134 (by decide) ?_
  refine sw_istore dX10_forest_135 (by decide) rfl ?_
  show SW sc m_X10_forest _ _ _ 137 [some (.ref r0), none, none, some (.int l3), some (.int 0)] [] h P
  exact (k)
theorem b_X10_forest_137 {r0 : Nat} {l3 : Int32} {l4 : Int32} {v3 : Int32} {g3 : ab_H} {fs3 : List Value} (hr3 : (h)[r0]? = some (10, fs3)) (hm3 : MSE m_X10_componentMany d [.ref r0] h (some (.int v3)) g3) (kt : v3 ≤ l4 → SW sc m_X10_forest (d + 1) rc rs 169 [none, none, none, some (.int l3), none] [] g3 P) (kf : ¬ (v3 ≤ l4) → SW sc m_X10_forest (d + 1) rc rs 146 [some (.ref r0), none, none, some (.int l3), some (.int l4)] [] g3 P) : SW sc m_X10_forest (d + 1) rc rs 137 [some (.ref r0), none, none, some (.int l3), some (.int l4)] [] h P := by
  refine sw_iload dX10_forest_137 rfl ?_
  refine sw_aload_n dX10_forest_139 rfl ?_
  refine sw_cV (M := m_X10_forest) dX10_forest_140 lv_X10_268 hm3 hr3 rfl (by decide) rfl rfl rfl (Nat.le_of_ble_eq_true rfl) (fun _ _ => rfl) rfl ?_
  show SW sc m_X10_forest _ _ _ 143 [some (.ref r0), none, none, some (.int l3), some (.int l4)] [.int v3, .int l4] g3 P
  exact sw_icmp_ge dX10_forest_143 (by decide) (fun q => (sw_fg [true, false, false, false, true] rfl (kt q))) (fun q => (kf q))
theorem b_X10_forest_146 {r0 : Nat} {l3 : Int32} {l4 : Int32} {v4 : Int32} {g4 : ab_H} {fs4 : List Value} (hr4 : (h)[r0]? = some (10, fs4)) (hm4 : MSE m_X10_isNew d [.ref r0, .int l4] h (some (.int v4)) g4) (kt : v4 = 0 → SW sc m_X10_forest (d + 1) rc rs 160 [some (.ref r0), none, none, none, some (.int l4)] [.int l3] g4 P) (kf : ¬ (v4 = 0) → SW sc m_X10_forest (d + 1) rc rs 156 [some (.ref r0), none, none, none, some (.int l4)] [.int l3] g4 P) : SW sc m_X10_forest (d + 1) rc rs 146 [some (.ref r0), none, none, some (.int l3), some (.int l4)] [] h P := by
  refine sw_iload_n dX10_forest_146 rfl ?_
  refine sw_aload_n dX10_forest_147 rfl ?_
  refine sw_iload dX10_forest_148 rfl ?_
  refine sw_cV (M := m_X10_forest) dX10_forest_150 lv_X10_142 hm4 hr4 rfl (by decide) rfl rfl rfl (Nat.le_of_ble_eq_true rfl) (fun _ _ => rfl) rfl ?_
  show SW sc m_X10_forest _ _ _ 153 [some (.ref r0), none, none, some (.int l3), some (.int l4)] [.int v4, .int l3] g4 P
  exact sw_if_eq dX10_forest_153 (by decide) (fun q => (sw_fg [false, false, false, true, false] rfl (kt q))) (fun q => (sw_fg [false, false, false, true, false] rfl (kf q)))
theorem b_X10_forest_156 {r0 : Nat} {l4 : Int32} {s0 : Int32} (k : SW sc m_X10_forest d rc rs 161 [some (.ref r0), none, none, none, some (.int l4)] [.int 1, .int s0] h P) : SW sc m_X10_forest d rc rs 156 [some (.ref r0), none, none, none, some (.int l4)] [.int s0] h P := by
  refine sw_iconst (v := 1) dX10_forest_156 (by decide) ?_
  exact sw_goto dX10_forest_157 (by decide) (k)
theorem b_X10_forest_160 {r0 : Nat} {l4 : Int32} {s0 : Int32} (k : SW sc m_X10_forest d rc rs 161 [some (.ref r0), none, none, none, some (.int l4)] [.int 0, .int s0] h P) : SW sc m_X10_forest d rc rs 160 [some (.ref r0), none, none, none, some (.int l4)] [.int s0] h P := by
  refine sw_iconst (v := 0) dX10_forest_160 (by decide) ?_
  exact (k)
theorem b_X10_forest_161 {r0 : Nat} {l4 : Int32} {s0 : Int32} {s1 : Int32} (k : SW sc m_X10_forest d rc rs 137 [some (.ref r0), none, none, some (.int (s0 + s1)), some (.int (l4 + 1))] [] h P) : SW sc m_X10_forest d rc rs 161 [some (.ref r0), none, none, none, some (.int l4)] [.int s1, .int s0] h P := by
  refine sw_iadd dX10_forest_161 ?_
  refine sw_istore_n dX10_forest_162 (by decide) rfl ?_
  show SW sc m_X10_forest _ _ _ 163 [some (.ref r0), none, none, some (.int (s0 + s1)), some (.int l4)] [] h P
  refine sw_iinc (v := l4 + 1) dX10_forest_163 rfl rfl (by decide) rfl ?_
  show SW sc m_X10_forest _ _ _ 166 [some (.ref r0), none, none, some (.int (s0 + s1)), some (.int (l4 + 1))] [] h P
  exact sw_goto dX10_forest_166 (by decide) (k)
theorem b_X10_forest_169 {l3 : Int32} (hP : P (.inl (some (.int l3))) h) : SW sc m_X10_forest d rc rs 169 [none, none, none, some (.int l3), none] [] h P := by
  refine sw_iload_n dX10_forest_169 rfl ?_
  exact sw_ret (v := (some (.int l3))) dX10_forest_170 rt_i hP
theorem b_X10_forest_171 {r0 : Nat} {fs2 : List Value} {x2 : Int32} (hc2 : (h)[r0]? = some (10, fs2)) (hv2 : fs2[8]? = some (.int x2)) (hP : P (.inl (some (.int x2))) h) : SW sc m_X10_forest d rc rs 171 [some (.ref r0), none, none, none, none] [] h P := by
  refine sw_aload_n dX10_forest_171 rfl ?_
  refine sw_getf dX10_forest_172 lf_X10_262 hc2 hv2 ?_
  exact sw_ret (v := (some (.int x2))) dX10_forest_175 rt_i hP
theorem b_X10_forest_176 {r0 : Nat} {fs2 : List Value} {x2 : Int32} (hc2 : (h)[r0]? = some (10, fs2)) (hv2 : fs2[7]? = some (.int x2)) (hP : P (.inl (some (.int x2))) h) : SW sc m_X10_forest d rc rs 176 [some (.ref r0), none, none, none, none] [] h P := by
  refine sw_aload_n dX10_forest_176 rfl ?_
  refine sw_getf dX10_forest_177 lf_X10_63 hc2 hv2 ?_
  exact sw_ret (v := (some (.int x2))) dX10_forest_180 rt_i hP
theorem b_X10_forest_181  (hP : P (.inl (some (.int (-1)))) h) : SW sc m_X10_forest d rc rs 181 [none, none, none, none, none] [] h P := by
  refine sw_iconst (v := (-1)) dX10_forest_181 (by decide) ?_
  exact sw_ret (v := (some (.int (-1)))) dX10_forest_182 rt_i hP
theorem b_X10_prunes_0 {r0 : Nat} (k : SW sc m_X10_prunes d rc rs 4 [some (.ref r0), some (.int 0), some (.int 0), none] [] h P) : SW sc m_X10_prunes d rc rs 0 [some (.ref r0), none, none, none] [] h P := by
  refine sw_iconst (v := 0) dX10_prunes_0 (by decide) ?_
  refine sw_istore_n dX10_prunes_1 (by decide) rfl ?_
  show SW sc m_X10_prunes _ _ _ 2 [some (.ref r0), some (.int 0), none, none] [] h P
  refine sw_iconst (v := 0) dX10_prunes_2 (by decide) ?_
  refine sw_istore_n dX10_prunes_3 (by decide) rfl ?_
  show SW sc m_X10_prunes _ _ _ 4 [some (.ref r0), some (.int 0), some (.int 0), none] [] h P
  exact (k)
theorem b_X10_prunes_4 {r0 : Nat} {l1 : Int32} {l2 : Int32} {fs3 : List Value} {x3 : Int32} (hc3 : (h)[r0]? = some (10, fs3)) (hv3 : fs3[6]? = some (.int x3)) (kt : x3 ≤ l2 → SW sc m_X10_prunes d rc rs 41 [some (.ref r0), some (.int l1), none, none] [] h P) (kf : ¬ (x3 ≤ l2) → SW sc m_X10_prunes d rc rs 12 [some (.ref r0), some (.int l1), some (.int l2), none] [] h P) : SW sc m_X10_prunes d rc rs 4 [some (.ref r0), some (.int l1), some (.int l2), none] [] h P := by
  refine sw_iload_n dX10_prunes_4 rfl ?_
  refine sw_aload_n dX10_prunes_5 rfl ?_
  refine sw_getf dX10_prunes_6 lf_X10_35 hc3 hv3 ?_
  exact sw_icmp_ge dX10_prunes_9 (by decide) (fun q => (sw_fg [false, false, true, false] rfl (kt q))) (fun q => (kf q))
theorem b_X10_prunes_12 {r0 : Nat} {l1 : Int32} {l2 : Int32} {fs3 : List Value} {a3 : Nat} {vs5 : List Value} {x5 : Int32} {v6 : Int32} {g6 : ab_H} (hc3 : (h)[r0]? = some (10, fs3)) (hv3 : fs3[2]? = some (.ref a3)) (hc5 : (h)[a3]? = some (100, vs5)) (ho5 : ¬ l2 < 0) (hi5 : vs5[l2.toNatClampNeg]? = some (.int x5)) (hm6 : MSE m_X10_ones d [.int x5] h (some (.int v6)) g6) (kt : ¬ v6 = 1 → SW sc m_X10_prunes (d + 1) rc rs 32 [some (.ref r0), none, some (.int l2), none] [.int l1] g6 P) (kf : v6 = 1 → SW sc m_X10_prunes (d + 1) rc rs 26 [some (.ref r0), none, some (.int l2), none] [.int l1] g6 P) : SW sc m_X10_prunes (d + 1) rc rs 12 [some (.ref r0), some (.int l1), some (.int l2), none] [] h P := by
  refine sw_iload_n dX10_prunes_12 rfl ?_
  refine sw_aload_n dX10_prunes_13 rfl ?_
  refine sw_getf dX10_prunes_14 lf_X10_23 hc3 hv3 ?_
  refine sw_iload_n dX10_prunes_17 rfl ?_
  refine sw_iald dX10_prunes_18 hc5 ho5 hi5 ?_
  refine sw_cS (M := m_X10_prunes) dX10_prunes_19 ls_X10_111 hm6 rfl rfl (Nat.le_of_ble_eq_true rfl) (fun _ _ => rfl) rfl ?_
  show SW sc m_X10_prunes _ _ _ 22 [some (.ref r0), some (.int l1), some (.int l2), none] [.int v6, .int l1] g6 P
  refine sw_iconst (v := 1) dX10_prunes_22 (by decide) ?_
  exact sw_icmp_ne dX10_prunes_23 (by decide) (fun q => (sw_fg [false, true, false, false] rfl (kt q))) (fun q => (sw_fg [false, true, false, false] rfl (kf q)))
theorem b_X10_prunes_26 {r0 : Nat} {l2 : Int32} {s0 : Int32} (k : SW sc m_X10_prunes d rc rs 33 [some (.ref r0), none, some (.int l2), none] [.int (1 <<< (l2 &&& 31)), .int s0] h P) : SW sc m_X10_prunes d rc rs 26 [some (.ref r0), none, some (.int l2), none] [.int s0] h P := by
  refine sw_iconst (v := 1) dX10_prunes_26 (by decide) ?_
  refine sw_iload_n dX10_prunes_27 rfl ?_
  refine sw_ishl dX10_prunes_28 ?_
  exact sw_goto dX10_prunes_29 (by decide) (k)
theorem b_X10_prunes_32 {r0 : Nat} {l2 : Int32} {s0 : Int32} (k : SW sc m_X10_prunes d rc rs 33 [some (.ref r0), none, some (.int l2), none] [.int 0, .int s0] h P) : SW sc m_X10_prunes d rc rs 32 [some (.ref r0), none, some (.int l2), none] [.int s0] h P := by
  refine sw_iconst (v := 0) dX10_prunes_32 (by decide) ?_
  exact (k)
theorem b_X10_prunes_33 {r0 : Nat} {l2 : Int32} {s0 : Int32} {s1 : Int32} (k : SW sc m_X10_prunes d rc rs 4 [some (.ref r0), some (.int (s0 ||| s1)), some (.int (l2 + 1)), none] [] h P) : SW sc m_X10_prunes d rc rs 33 [some (.ref r0), none, some (.int l2), none] [.int s1, .int s0] h P := by
  refine sw_ior dX10_prunes_33 ?_
  refine sw_istore_n dX10_prunes_34 (by decide) rfl ?_
  show SW sc m_X10_prunes _ _ _ 35 [some (.ref r0), some (.int (s0 ||| s1)), some (.int l2), none] [] h P
  refine sw_iinc (v := l2 + 1) dX10_prunes_35 rfl rfl (by decide) rfl ?_
  show SW sc m_X10_prunes _ _ _ 38 [some (.ref r0), some (.int (s0 ||| s1)), some (.int (l2 + 1)), none] [] h P
  exact sw_goto dX10_prunes_38 (by decide) (k)
theorem b_X10_prunes_41 {r0 : Nat} {l1 : Int32} (k : SW sc m_X10_prunes d rc rs 45 [some (.ref r0), some (.int l1), some (.int 0), some (.int 0)] [] h P) : SW sc m_X10_prunes d rc rs 41 [some (.ref r0), some (.int l1), none, none] [] h P := by
  refine sw_iconst (v := 0) dX10_prunes_41 (by decide) ?_
  refine sw_istore_n dX10_prunes_42 (by decide) rfl ?_
  show SW sc m_X10_prunes _ _ _ 43 [some (.ref r0), some (.int l1), some (.int 0), none] [] h P
  refine sw_iconst (v := 0) dX10_prunes_43 (by decide) ?_
  refine sw_istore_n dX10_prunes_44 (by decide) rfl ?_
  show SW sc m_X10_prunes _ _ _ 45 [some (.ref r0), some (.int l1), some (.int 0), some (.int 0)] [] h P
  exact (k)
theorem b_X10_prunes_45 {r0 : Nat} {l1 : Int32} {l2 : Int32} {l3 : Int32} {fs3 : List Value} {x3 : Int32} (hc3 : (h)[r0]? = some (10, fs3)) (hv3 : fs3[6]? = some (.int x3)) (kt : x3 ≤ l3 → SW sc m_X10_prunes d rc rs 99 [none, none, some (.int l2), none] [] h P) (kf : ¬ (x3 ≤ l3) → SW sc m_X10_prunes d rc rs 53 [some (.ref r0), some (.int l1), some (.int l2), some (.int l3)] [] h P) : SW sc m_X10_prunes d rc rs 45 [some (.ref r0), some (.int l1), some (.int l2), some (.int l3)] [] h P := by
  refine sw_iload_n dX10_prunes_45 rfl ?_
  refine sw_aload_n dX10_prunes_46 rfl ?_
  refine sw_getf dX10_prunes_47 lf_X10_35 hc3 hv3 ?_
  exact sw_icmp_ge dX10_prunes_50 (by decide) (fun q => (sw_fg [true, true, false, true] rfl (kt q))) (fun q => (kf q))
theorem b_X10_prunes_53 {r0 : Nat} {l1 : Int32} {l2 : Int32} {l3 : Int32} {v3 : Int32} {g3 : ab_H} (hm3 : MSE m_X10_has d [.int l1, .int l3] h (some (.int v3)) g3) (kt : v3 = 0 → SW sc m_X10_prunes (d + 1) rc rs 93 [some (.ref r0), some (.int l1), some (.int l2), some (.int l3)] [] g3 P) (kf : ¬ (v3 = 0) → SW sc m_X10_prunes (d + 1) rc rs 61 [some (.ref r0), some (.int l1), some (.int l2), some (.int l3)] [] g3 P) : SW sc m_X10_prunes (d + 1) rc rs 53 [some (.ref r0), some (.int l1), some (.int l2), some (.int l3)] [] h P := by
  refine sw_iload_n dX10_prunes_53 rfl ?_
  refine sw_iload_n dX10_prunes_54 rfl ?_
  refine sw_cS (M := m_X10_prunes) dX10_prunes_55 ls_X10_70 hm3 rfl rfl (Nat.le_of_ble_eq_true rfl) (fun _ _ => rfl) rfl ?_
  show SW sc m_X10_prunes _ _ _ 58 [some (.ref r0), some (.int l1), some (.int l2), some (.int l3)] [.int v3] g3 P
  exact sw_if_eq dX10_prunes_58 (by decide) (fun q => (kt q)) (fun q => (kf q))
theorem b_X10_prunes_61 {r0 : Nat} {l1 : Int32} {l2 : Int32} {l3 : Int32} {fs2 : List Value} {a2 : Nat} {vs4 : List Value} {x4 : Int32} (hc2 : (h)[r0]? = some (10, fs2)) (hv2 : fs2[2]? = some (.ref a2)) (hc4 : (h)[a2]? = some (100, vs4)) (ho4 : ¬ l3 < 0) (hi4 : vs4[l3.toNatClampNeg]? = some (.int x4)) (kt : ¬ x4 = 0 → SW sc m_X10_prunes d rc rs 73 [some (.ref r0), some (.int l1), some (.int l2), some (.int l3)] [] h P) (kf : x4 = 0 → SW sc m_X10_prunes d rc rs 70 [some (.ref r0), some (.int l1), some (.int l2), some (.int l3)] [] h P) : SW sc m_X10_prunes d rc rs 61 [some (.ref r0), some (.int l1), some (.int l2), some (.int l3)] [] h P := by
  refine sw_aload_n dX10_prunes_61 rfl ?_
  refine sw_getf dX10_prunes_62 lf_X10_23 hc2 hv2 ?_
  refine sw_iload_n dX10_prunes_65 rfl ?_
  refine sw_iald dX10_prunes_66 hc4 ho4 hi4 ?_
  exact sw_if_ne dX10_prunes_67 (by decide) (fun q => (kt q)) (fun q => (kf q))
theorem b_X10_prunes_70 {r0 : Nat} {l1 : Int32} {l2 : Int32} {l3 : Int32} (k : SW sc m_X10_prunes d rc rs 93 [some (.ref r0), some (.int l1), some (.int l2), some (.int l3)] [] h P) : SW sc m_X10_prunes d rc rs 70 [some (.ref r0), some (.int l1), some (.int l2), some (.int l3)] [] h P := by
  exact sw_goto dX10_prunes_70 (by decide) (k)
theorem b_X10_prunes_73 {r0 : Nat} {l1 : Int32} {l2 : Int32} {l3 : Int32} {fs3 : List Value} {a3 : Nat} {fs6 : List Value} {a6 : Nat} {vs8 : List Value} {x8 : Int32} {v9 : Int32} {g9 : ab_H} {g10 : ab_H} (hc3 : (h)[r0]? = some (10, fs3)) (hv3 : fs3[2]? = some (.ref a3)) (hc6 : (h)[r0]? = some (10, fs6)) (hv6 : fs6[2]? = some (.ref a6)) (hc8 : (h)[a6]? = some (100, vs8)) (ho8 : ¬ l3 < 0) (hi8 : vs8[l3.toNatClampNeg]? = some (.int x8)) (hm9 : MSE m_X10_lowest d [.int x8] h (some (.int v9)) g9) (hm10 : MSE m_X10_parts d [.ref a3, .int l3, .int v9] g9 none g10) (k : SW sc m_X10_prunes (d + 1) rc rs 93 [some (.ref r0), some (.int l1), some (.int (l2 + 1)), some (.int l3)] [] g10 P) : SW sc m_X10_prunes (d + 1) rc rs 73 [some (.ref r0), some (.int l1), some (.int l2), some (.int l3)] [] h P := by
  refine sw_iinc (v := l2 + 1) dX10_prunes_73 rfl rfl (by decide) rfl ?_
  show SW sc m_X10_prunes _ _ _ 76 [some (.ref r0), some (.int l1), some (.int (l2 + 1)), some (.int l3)] [] h P
  refine sw_aload_n dX10_prunes_76 rfl ?_
  refine sw_getf dX10_prunes_77 lf_X10_23 hc3 hv3 ?_
  refine sw_iload_n dX10_prunes_80 rfl ?_
  refine sw_aload_n dX10_prunes_81 rfl ?_
  refine sw_getf dX10_prunes_82 lf_X10_23 hc6 hv6 ?_
  refine sw_iload_n dX10_prunes_85 rfl ?_
  refine sw_iald dX10_prunes_86 hc8 ho8 hi8 ?_
  refine sw_cS (M := m_X10_prunes) dX10_prunes_87 ls_X10_87 hm9 rfl rfl (Nat.le_of_ble_eq_true rfl) (fun _ _ => rfl) rfl ?_
  show SW sc m_X10_prunes _ _ _ 90 [some (.ref r0), some (.int l1), some (.int (l2 + 1)), some (.int l3)] [.int v9, .int l3, .ref a3] g9 P
  refine sw_cS (M := m_X10_prunes) dX10_prunes_90 ls_X10_274 hm10 rfl rfl (Nat.le_of_ble_eq_true rfl) (fun _ _ => rfl) rfl ?_
  show SW sc m_X10_prunes _ _ _ 93 [some (.ref r0), some (.int l1), some (.int (l2 + 1)), some (.int l3)] [] g10 P
  exact (k)
theorem b_X10_prunes_93 {r0 : Nat} {l1 : Int32} {l2 : Int32} {l3 : Int32} (k : SW sc m_X10_prunes d rc rs 45 [some (.ref r0), some (.int l1), some (.int l2), some (.int (l3 + 1))] [] h P) : SW sc m_X10_prunes d rc rs 93 [some (.ref r0), some (.int l1), some (.int l2), some (.int l3)] [] h P := by
  refine sw_iinc (v := l3 + 1) dX10_prunes_93 rfl rfl (by decide) rfl ?_
  show SW sc m_X10_prunes _ _ _ 96 [some (.ref r0), some (.int l1), some (.int l2), some (.int (l3 + 1))] [] h P
  exact sw_goto dX10_prunes_96 (by decide) (k)
theorem b_X10_prunes_99 {l2 : Int32} (hP : P (.inl (some (.int l2))) h) : SW sc m_X10_prunes d rc rs 99 [none, none, some (.int l2), none] [] h P := by
  refine sw_iload_n dX10_prunes_99 rfl ?_
  exact sw_ret (v := (some (.int l2))) dX10_prunes_100 rt_i hP
theorem b_X10_layOther_0 {r0 : Nat} (k : SW sc m_X10_layOther d rc rs 2 [some (.ref r0), some (.int 0)] [] h P) : SW sc m_X10_layOther d rc rs 0 [some (.ref r0), none] [] h P := by
  refine sw_iconst (v := 0) dX10_layOther_0 (by decide) ?_
  refine sw_istore_n dX10_layOther_1 (by decide) rfl ?_
  show SW sc m_X10_layOther _ _ _ 2 [some (.ref r0), some (.int 0)] [] h P
  exact (k)
theorem b_X10_layOther_2 {r0 : Nat} {l1 : Int32} (kt : 20 ≤ l1 → SW sc m_X10_layOther d rc rs 26 [none, none] [] h P) (kf : ¬ (20 ≤ l1) → SW sc m_X10_layOther d rc rs 8 [some (.ref r0), some (.int l1)] [] h P) : SW sc m_X10_layOther d rc rs 2 [some (.ref r0), some (.int l1)] [] h P := by
  refine sw_iload_n dX10_layOther_2 rfl ?_
  refine sw_bipush (v := 20) dX10_layOther_3 (by decide) ?_
  exact sw_icmp_ge dX10_layOther_5 (by decide) (fun q => (sw_fg [true, true] rfl (kt q))) (fun q => (kf q))
theorem b_X10_layOther_8 {r0 : Nat} {l1 : Int32} {fs2 : List Value} {a2 : Nat} {fs5 : List Value} {a5 : Nat} {vs7 : List Value} {x7 : Int32} {vs8 : List Value} (hc2 : (h)[r0]? = some (10, fs2)) (hv2 : fs2[2]? = some (.ref a2)) (hc5 : (h)[r0]? = some (10, fs5)) (hv5 : fs5[1]? = some (.ref a5)) (hc7 : (h)[a5]? = some (100, vs7)) (ho7 : ¬ l1 < 0) (hi7 : vs7[l1.toNatClampNeg]? = some (.int x7)) (hc8 : (h)[a2]? = some (100, vs8)) (ho8 : ¬ l1 < 0) (hl8 : l1.toNatClampNeg < vs8.length) (k : SW sc m_X10_layOther d rc rs 2 [some (.ref r0), some (.int (l1 + 1))] [] ((h).set a2 (100, vs8.set l1.toNatClampNeg (.int x7))) P) : SW sc m_X10_layOther d rc rs 8 [some (.ref r0), some (.int l1)] [] h P := by
  refine sw_aload_n dX10_layOther_8 rfl ?_
  refine sw_getf dX10_layOther_9 lf_X10_23 hc2 hv2 ?_
  refine sw_iload_n dX10_layOther_12 rfl ?_
  refine sw_aload_n dX10_layOther_13 rfl ?_
  refine sw_getf dX10_layOther_14 lf_X10_19 hc5 hv5 ?_
  refine sw_iload_n dX10_layOther_17 rfl ?_
  refine sw_iald dX10_layOther_18 hc7 ho7 hi7 ?_
  refine sw_iast dX10_layOther_19 hc8 ho8 hl8 ?_
  refine sw_iinc (v := l1 + 1) dX10_layOther_20 rfl rfl (by decide) rfl ?_
  show SW sc m_X10_layOther _ _ _ 23 [some (.ref r0), some (.int (l1 + 1))] [] ((h).set a2 (100, vs8.set l1.toNatClampNeg (.int x7))) P
  exact sw_goto dX10_layOther_23 (by decide) (k)
theorem b_X10_layOther_26  (hP : P (.inl none) h) : SW sc m_X10_layOther d rc rs 26 [none, none] [] h P := by
  exact sw_ret (v := none) dX10_layOther_26 rt_v hP
theorem b_X10_round_0 {r0 : Nat} {l1 : Int32} {g2 : ab_H} {fs2 : List Value} (hr2 : (h)[r0]? = some (10, fs2)) (hm2 : MSE m_X10_layOther d [.ref r0] h none g2) (k : SW sc m_X10_round (d + 1) rc rs 8 [some (.ref r0), some (.int l1), some (.int 0), some (.int 0)] [] g2 P) : SW sc m_X10_round (d + 1) rc rs 0 [some (.ref r0), some (.int l1), none, none] [] h P := by
  refine sw_aload_n dX10_round_0 rfl ?_
  refine sw_cV (M := m_X10_round) dX10_round_1 lv_X10_277 hm2 hr2 rfl (by decide) rfl rfl rfl (Nat.le_of_ble_eq_true rfl) (fun _ _ => rfl) rfl ?_
  show SW sc m_X10_round _ _ _ 4 [some (.ref r0), some (.int l1), none, none] [] g2 P
  refine sw_iconst (v := 0) dX10_round_4 (by decide) ?_
  refine sw_istore_n dX10_round_5 (by decide) rfl ?_
  show SW sc m_X10_round _ _ _ 6 [some (.ref r0), some (.int l1), some (.int 0), none] [] g2 P
  refine sw_iconst (v := 0) dX10_round_6 (by decide) ?_
  refine sw_istore_n dX10_round_7 (by decide) rfl ?_
  show SW sc m_X10_round _ _ _ 8 [some (.ref r0), some (.int l1), some (.int 0), some (.int 0)] [] g2 P
  exact (k)
theorem b_X10_round_8 {r0 : Nat} {l1 : Int32} {l2 : Int32} {l3 : Int32} {fs2 : List Value} {a2 : Nat} {vs4 : List Value} {x4 : Int32} (hc2 : (h)[r0]? = some (10, fs2)) (hv2 : fs2[2]? = some (.ref a2)) (hc4 : (h)[a2]? = some (100, vs4)) (ho4 : ¬ l1 < 0) (hi4 : vs4[l1.toNatClampNeg]? = some (.int x4)) (kt : x4 = 0 → SW sc m_X10_round d rc rs 30 [none, none, some (.int l2), none] [] h P) (kf : ¬ (x4 = 0) → SW sc m_X10_round d rc rs 17 [some (.ref r0), some (.int l1), some (.int l2), some (.int l3)] [] h P) : SW sc m_X10_round d rc rs 8 [some (.ref r0), some (.int l1), some (.int l2), some (.int l3)] [] h P := by
  refine sw_aload_n dX10_round_8 rfl ?_
  refine sw_getf dX10_round_9 lf_X10_23 hc2 hv2 ?_
  refine sw_iload_n dX10_round_12 rfl ?_
  refine sw_iald dX10_round_13 hc4 ho4 hi4 ?_
  exact sw_if_eq dX10_round_14 (by decide) (fun q => (sw_fg [true, true, false, true] rfl (kt q))) (fun q => (kf q))
theorem b_X10_round_17 {r0 : Nat} {l1 : Int32} {l2 : Int32} {l3 : Int32} {v3 : Int32} {g3 : ab_H} {fs3 : List Value} (hr3 : (h)[r0]? = some (10, fs3)) (hm3 : MSE m_X10_prunes d [.ref r0] h (some (.int v3)) g3) (k : SW sc m_X10_round (d + 1) rc rs 8 [some (.ref r0), some (.int l1), some (.int (l2 + 1)), some (.int (l3 + v3))] [] g3 P) : SW sc m_X10_round (d + 1) rc rs 17 [some (.ref r0), some (.int l1), some (.int l2), some (.int l3)] [] h P := by
  refine sw_iload_n dX10_round_17 rfl ?_
  refine sw_aload_n dX10_round_18 rfl ?_
  refine sw_cV (M := m_X10_round) dX10_round_19 lv_X10_280 hm3 hr3 rfl (by decide) rfl rfl rfl (Nat.le_of_ble_eq_true rfl) (fun _ _ => rfl) rfl ?_
  show SW sc m_X10_round _ _ _ 22 [some (.ref r0), some (.int l1), some (.int l2), some (.int l3)] [.int v3, .int l3] g3 P
  refine sw_iadd dX10_round_22 ?_
  refine sw_istore_n dX10_round_23 (by decide) rfl ?_
  show SW sc m_X10_round _ _ _ 24 [some (.ref r0), some (.int l1), some (.int l2), some (.int (l3 + v3))] [] g3 P
  refine sw_iinc (v := l2 + 1) dX10_round_24 rfl rfl (by decide) rfl ?_
  show SW sc m_X10_round _ _ _ 27 [some (.ref r0), some (.int l1), some (.int (l2 + 1)), some (.int (l3 + v3))] [] g3 P
  exact sw_goto dX10_round_27 (by decide) (k)
theorem b_X10_round_30 {l2 : Int32} (hP : P (.inl (some (.int l2))) h) : SW sc m_X10_round d rc rs 30 [none, none, some (.int l2), none] [] h P := by
  refine sw_iload_n dX10_round_30 rfl ?_
  exact sw_ret (v := (some (.int l2))) dX10_round_31 rt_i hP
theorem b_X10_vertex_0 {r0 : Nat} {l1 : Int32} {l2 : Int32} {v3 : Int32} {g3 : ab_H} {fs3 : List Value} (hr3 : (h)[r0]? = some (10, fs3)) (hm3 : MSE m_X10_isVertex d [.ref r0, .int l1] h (some (.int v3)) g3) (kt : ¬ v3 = 0 → SW sc m_X10_vertex (d + 1) rc rs 15 [some (.ref r0), some (.int l1), some (.int l2), some (.int v3)] [.ref r0] g3 P) (kf : v3 = 0 → SW sc m_X10_vertex (d + 1) rc rs 11 [some (.ref r0), some (.int l1), some (.int l2), some (.int v3)] [.ref r0] g3 P) : SW sc m_X10_vertex (d + 1) rc rs 0 [some (.ref r0), some (.int l1), some (.int l2), none] [] h P := by
  refine sw_aload_n dX10_vertex_0 rfl ?_
  refine sw_iload_n dX10_vertex_1 rfl ?_
  refine sw_cV (M := m_X10_vertex) dX10_vertex_2 lv_X10_283 hm3 hr3 rfl (by decide) rfl rfl rfl (Nat.le_of_ble_eq_true rfl) (fun _ _ => rfl) rfl ?_
  show SW sc m_X10_vertex _ _ _ 5 [some (.ref r0), some (.int l1), some (.int l2), none] [.int v3] g3 P
  refine sw_istore_n dX10_vertex_5 (by decide) rfl ?_
  show SW sc m_X10_vertex _ _ _ 6 [some (.ref r0), some (.int l1), some (.int l2), some (.int v3)] [] g3 P
  refine sw_aload_n dX10_vertex_6 rfl ?_
  refine sw_iload_n dX10_vertex_7 rfl ?_
  exact sw_if_ne dX10_vertex_8 (by decide) (fun q => (kt q)) (fun q => (kf q))
end
