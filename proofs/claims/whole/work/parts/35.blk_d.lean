section
variable {sc : Option (List Int32)} {d rc rs : Nat} {h : ab_H} {P : ab_O → ab_H → Prop}
theorem b_X10_ends_0 {r0 : Nat} {fs2 : List Value} {x2 : Int32} (hc2 : (h)[r0]? = some (10, fs2)) (hv2 : fs2[17]? = some (.int x2)) (kt : x2 = 4 → SW sc m_X10_ends d rc rs 14 [some (.ref r0)] [] h P) (kf : ¬ (x2 = 4) → SW sc m_X10_ends d rc rs 8 [some (.ref r0)] [] h P) : SW sc m_X10_ends d rc rs 0 [some (.ref r0)] [] h P := by
  refine sw_aload_n dX10_ends_0 rfl ?_
  refine sw_getf dX10_ends_1 lf_X10_169 hc2 hv2 ?_
  refine sw_iconst (v := 4) dX10_ends_4 (by decide) ?_
  exact sw_icmp_eq dX10_ends_5 (by decide) (fun q => (kt q)) (fun q => (kf q))
theorem b_X10_ends_8 {r0 : Nat} {v3 : Int32} {g3 : ab_H} {fs3 : List Value} (hr3 : (h)[r0]? = some (10, fs3)) (hm3 : MSE m_X10_bad d [.ref r0, .int 1] h (some (.int v3)) g3) (hz4 : narrow .boolean (.int v3) = .int v3) (hP : P (.inl (some (.int v3))) g3) : SW sc m_X10_ends (d + 1) rc rs 8 [some (.ref r0)] [] h P := by
  refine sw_aload_n dX10_ends_8 rfl ?_
  refine sw_iconst (v := 1) dX10_ends_9 (by decide) ?_
  refine sw_cV dX10_ends_10 lv_X10_196 hm3 hr3 rfl (by decide) rfl rfl rfl (Nat.le_of_ble_eq_true rfl) (fun _ _ => rfl) rfl ?_
  show SW sc m_X10_ends _ _ _ 13 [some (.ref r0)] [.int v3] g3 P
  exact sw_ret (v := (some (.int v3))) dX10_ends_13 (rt_n hz4) hP
theorem b_X10_ends_14 {r0 : Nat} {g2 : ab_H} {fs2 : List Value} (hr2 : (h)[r0]? = some (10, fs2)) (hm2 : MSE m_X10_go d [.ref r0] h none g2) (hP : P (.inl (some (.int 1))) g2) : SW sc m_X10_ends (d + 1) rc rs 14 [some (.ref r0)] [] h P := by
  refine sw_aload_n dX10_ends_14 rfl ?_
  refine sw_cV dX10_ends_15 lv_X10_202 hm2 hr2 rfl (by decide) rfl rfl rfl (Nat.le_of_ble_eq_true rfl) (fun _ _ => rfl) rfl ?_
  show SW sc m_X10_ends _ _ _ 18 [some (.ref r0)] [] g2 P
  refine sw_iconst (v := 1) dX10_ends_18 (by decide) ?_
  exact sw_ret (v := (some (.int 1))) dX10_ends_19 (rt_n (by decide)) hP
theorem b_X10_readsAll_0 {r0 : Nat} {g2 : ab_H} {fs2 : List Value} {v5 : Int32} {g5 : ab_H} {fs5 : List Value} (hr2 : (h)[r0]? = some (10, fs2)) (hm2 : MSE m_X10_go d [.ref r0] h none g2) (hr5 : (g2)[r0]? = some (10, fs5)) (hm5 : MSE m_X10_isWord d [.ref r0, .retAddr 0] g2 (some (.int v5)) g5) (kt : ¬ v5 = 0 → SW sc m_X10_readsAll (d + 1) rc rs 19 [some (.ref r0), none] [] g5 P) (kf : v5 = 0 → SW sc m_X10_readsAll (d + 1) rc rs 13 [some (.ref r0), none] [] g5 P) : SW sc m_X10_readsAll (d + 1) rc rs 0 [some (.ref r0), none] [] h P := by
  refine sw_aload_n dX10_readsAll_0 rfl ?_
  refine sw_cV dX10_readsAll_1 lv_X10_202 hm2 hr2 rfl (by decide) rfl rfl rfl (Nat.le_of_ble_eq_true rfl) (fun _ _ => rfl) rfl ?_
  show SW sc m_X10_readsAll _ _ _ 4 [some (.ref r0), none] [] g2 P
  refine sw_aload_n dX10_readsAll_4 rfl ?_
  refine sw_ldc (t := 0) dX10_readsAll_5 sr_X10_251 rfl ?_
  refine sw_cV dX10_readsAll_7 lv_X10_230 hm5 hr5 rfl (by decide) rfl rfl rfl (Nat.le_of_ble_eq_true rfl) (fun _ _ => rfl) rfl ?_
  show SW sc m_X10_readsAll _ _ _ 10 [some (.ref r0), none] [.int v5] g5 P
  exact sw_if_ne dX10_readsAll_10 (by decide) (fun q => (kt q)) (fun q => (kf q))
theorem b_X10_readsAll_13 {r0 : Nat} {v3 : Int32} {g3 : ab_H} {fs3 : List Value} (hr3 : (h)[r0]? = some (10, fs3)) (hm3 : MSE m_X10_bad d [.ref r0, .int 1] h (some (.int v3)) g3) (hz4 : narrow .boolean (.int v3) = .int v3) (hP : P (.inl (some (.int v3))) g3) : SW sc m_X10_readsAll (d + 1) rc rs 13 [some (.ref r0), none] [] h P := by
  refine sw_aload_n dX10_readsAll_13 rfl ?_
  refine sw_iconst (v := 1) dX10_readsAll_14 (by decide) ?_
  refine sw_cV dX10_readsAll_15 lv_X10_196 hm3 hr3 rfl (by decide) rfl rfl rfl (Nat.le_of_ble_eq_true rfl) (fun _ _ => rfl) rfl ?_
  show SW sc m_X10_readsAll _ _ _ 18 [some (.ref r0), none] [.int v3] g3 P
  exact sw_ret (v := (some (.int v3))) dX10_readsAll_18 (rt_n hz4) hP
theorem b_X10_readsAll_19 {r0 : Nat} {g2 : ab_H} {fs2 : List Value} {v6 : Int32} {g6 : ab_H} {fs6 : List Value} (hr2 : (h)[r0]? = some (10, fs2)) (hm2 : MSE m_X10_go d [.ref r0] h none g2) (hr6 : (g2)[r0]? = some (10, fs6)) (hm6 : MSE m_X10_reads d [.ref r0, .int 1, .int 10] g2 (some (.int v6)) g6) (kt : ¬ v6 = 0 → SW sc m_X10_readsAll (d + 1) rc rs 35 [some (.ref r0), none] [] g6 P) (kf : v6 = 0 → SW sc m_X10_readsAll (d + 1) rc rs 33 [none, none] [] g6 P) : SW sc m_X10_readsAll (d + 1) rc rs 19 [some (.ref r0), none] [] h P := by
  refine sw_aload_n dX10_readsAll_19 rfl ?_
  refine sw_cV dX10_readsAll_20 lv_X10_202 hm2 hr2 rfl (by decide) rfl rfl rfl (Nat.le_of_ble_eq_true rfl) (fun _ _ => rfl) rfl ?_
  show SW sc m_X10_readsAll _ _ _ 23 [some (.ref r0), none] [] g2 P
  refine sw_aload_n dX10_readsAll_23 rfl ?_
  refine sw_iconst (v := 1) dX10_readsAll_24 (by decide) ?_
  refine sw_bipush (v := 10) dX10_readsAll_25 (by decide) ?_
  refine sw_cV dX10_readsAll_27 lv_X10_209 hm6 hr6 rfl (by decide) rfl rfl rfl (Nat.le_of_ble_eq_true rfl) (fun _ _ => rfl) rfl ?_
  show SW sc m_X10_readsAll _ _ _ 30 [some (.ref r0), none] [.int v6] g6 P
  exact sw_if_ne dX10_readsAll_30 (by decide) (fun q => (kt q)) (fun q => (sw_fg [true, false] rfl (kf q)))
theorem b_X10_readsAll_33  (hP : P (.inl (some (.int 0))) h) : SW sc m_X10_readsAll d rc rs 33 [none, none] [] h P := by
  refine sw_iconst (v := 0) dX10_readsAll_33 (by decide) ?_
  exact sw_ret (v := (some (.int 0))) dX10_readsAll_34 (rt_n (by decide)) hP
theorem b_X10_readsAll_35 {r0 : Nat} {fs3 : List Value} {x3 : Int32} {fs4 : List Value} {v6 : Int32} {g6 : ab_H} {fs6 : List Value} (hc3 : (h)[r0]? = some (10, fs3)) (hv3 : fs3[21]? = some (.int x3)) (hc4 : (h)[r0]? = some (10, fs4)) (hk4 : 10 < fs4.length) (hr6 : ((h).set r0 (10, fs4.set 10 (.int x3)))[r0]? = some (10, fs6)) (hm6 : MSE m_X10_ends d [.ref r0] ((h).set r0 (10, fs4.set 10 (.int x3))) (some (.int v6)) g6) (kt : ¬ v6 = 0 → SW sc m_X10_readsAll (d + 1) rc rs 52 [some (.ref r0), none] [] g6 P) (kf : v6 = 0 → SW sc m_X10_readsAll (d + 1) rc rs 50 [none, none] [] g6 P) : SW sc m_X10_readsAll (d + 1) rc rs 35 [some (.ref r0), none] [] h P := by
  refine sw_aload_n dX10_readsAll_35 rfl ?_
  refine sw_aload_n dX10_readsAll_36 rfl ?_
  refine sw_getf dX10_readsAll_37 lf_X10_199 hc3 hv3 ?_
  refine sw_putf dX10_readsAll_40 lp_X10_60 hc4 hk4 (fun _ _ => ⟨rfl, rfl⟩) ?_
  refine sw_aload_n dX10_readsAll_43 rfl ?_
  refine sw_cV dX10_readsAll_44 lv_X10_253 hm6 hr6 rfl (by decide) rfl rfl rfl (Nat.le_of_ble_eq_true rfl) (fun _ _ => rfl) rfl ?_
  show SW sc m_X10_readsAll _ _ _ 47 [some (.ref r0), none] [.int v6] g6 P
  exact sw_if_ne dX10_readsAll_47 (by decide) (fun q => (kt q)) (fun q => (sw_fg [true, false] rfl (kf q)))
theorem b_X10_readsAll_50  (hP : P (.inl (some (.int 0))) h) : SW sc m_X10_readsAll d rc rs 50 [none, none] [] h P := by
  refine sw_iconst (v := 0) dX10_readsAll_50 (by decide) ?_
  exact sw_ret (v := (some (.int 0))) dX10_readsAll_51 (rt_n (by decide)) hP
theorem b_X10_readsAll_52 {r0 : Nat} (k : SW sc m_X10_readsAll d rc rs 54 [some (.ref r0), some (.int 0)] [] h P) : SW sc m_X10_readsAll d rc rs 52 [some (.ref r0), none] [] h P := by
  refine sw_iconst (v := 0) dX10_readsAll_52 (by decide) ?_
  refine sw_istore_n dX10_readsAll_53 (by decide) rfl ?_
  show SW sc m_X10_readsAll _ _ _ 54 [some (.ref r0), some (.int 0)] [] h P
  exact (k)
theorem b_X10_readsAll_54 {r0 : Nat} {l1 : Int32} (kt : 10 ≤ l1 → SW sc m_X10_readsAll d rc rs 95 [some (.ref r0), none] [] h P) (kf : ¬ (10 ≤ l1) → SW sc m_X10_readsAll d rc rs 60 [some (.ref r0), some (.int l1)] [] h P) : SW sc m_X10_readsAll d rc rs 54 [some (.ref r0), some (.int l1)] [] h P := by
  refine sw_iload_n dX10_readsAll_54 rfl ?_
  refine sw_bipush (v := 10) dX10_readsAll_55 (by decide) ?_
  exact sw_icmp_ge dX10_readsAll_57 (by decide) (fun q => (sw_fg [false, true] rfl (kt q))) (fun q => (kf q))
theorem b_X10_readsAll_60 {r0 : Nat} {l1 : Int32} {fs2 : List Value} {a2 : Nat} {vs5 : List Value} {fs7 : List Value} {a7 : Nat} {fs13 : List Value} {x13 : Int32} (hc2 : (h)[r0]? = some (10, fs2)) (hv2 : fs2[2]? = some (.ref a2)) (hc5 : (h)[a2]? = some (100, vs5)) (ho5 : ¬ l1 < 0) (hl5 : l1.toNatClampNeg < vs5.length) (hc7 : ((h).set a2 (100, vs5.set l1.toNatClampNeg (.int 0)))[r0]? = some (10, fs7)) (hv7 : fs7[2]? = some (.ref a7)) (hc13 : ((h).set a2 (100, vs5.set l1.toNatClampNeg (.int 0)))[r0]? = some (10, fs13)) (hv13 : fs13[10]? = some (.int x13)) (kt : x13 ≤ l1 → SW sc m_X10_readsAll d rc rs 87 [some (.ref r0), some (.int l1)] [.int (10 + l1), .ref a7] ((h).set a2 (100, vs5.set l1.toNatClampNeg (.int 0))) P) (kf : ¬ (x13 ≤ l1) → SW sc m_X10_readsAll d rc rs 83 [some (.ref r0), some (.int l1)] [.int (10 + l1), .ref a7] ((h).set a2 (100, vs5.set l1.toNatClampNeg (.int 0))) P) : SW sc m_X10_readsAll d rc rs 60 [some (.ref r0), some (.int l1)] [] h P := by
  refine sw_aload_n dX10_readsAll_60 rfl ?_
  refine sw_getf dX10_readsAll_61 lf_X10_23 hc2 hv2 ?_
  refine sw_iload_n dX10_readsAll_64 rfl ?_
  refine sw_iconst (v := 0) dX10_readsAll_65 (by decide) ?_
  refine sw_iast dX10_readsAll_66 hc5 ho5 hl5 ?_
  refine sw_aload_n dX10_readsAll_67 rfl ?_
  refine sw_getf dX10_readsAll_68 lf_X10_23 hc7 hv7 ?_
  refine sw_bipush (v := 10) dX10_readsAll_71 (by decide) ?_
  refine sw_iload_n dX10_readsAll_73 rfl ?_
  refine sw_iadd dX10_readsAll_74 ?_
  refine sw_iload_n dX10_readsAll_75 rfl ?_
  refine sw_aload_n dX10_readsAll_76 rfl ?_
  refine sw_getf dX10_readsAll_77 lf_X10_60 hc13 hv13 ?_
  exact sw_icmp_ge dX10_readsAll_80 (by decide) (fun q => (kt q)) (fun q => (kf q))
theorem b_X10_readsAll_83 {r0 : Nat} {l1 : Int32} {q0 : Nat} {s1 : Int32} (k : SW sc m_X10_readsAll d rc rs 88 [some (.ref r0), some (.int l1)] [.int 1, .int s1, .ref q0] h P) : SW sc m_X10_readsAll d rc rs 83 [some (.ref r0), some (.int l1)] [.int s1, .ref q0] h P := by
  refine sw_iconst (v := 1) dX10_readsAll_83 (by decide) ?_
  exact sw_goto dX10_readsAll_84 (by decide) (k)
theorem b_X10_readsAll_87 {r0 : Nat} {l1 : Int32} {q0 : Nat} {s1 : Int32} (k : SW sc m_X10_readsAll d rc rs 88 [some (.ref r0), some (.int l1)] [.int 0, .int s1, .ref q0] h P) : SW sc m_X10_readsAll d rc rs 87 [some (.ref r0), some (.int l1)] [.int s1, .ref q0] h P := by
  refine sw_iconst (v := 0) dX10_readsAll_87 (by decide) ?_
  exact (k)
theorem b_X10_readsAll_88 {r0 : Nat} {l1 : Int32} {q0 : Nat} {s1 : Int32} {s2 : Int32} {vs1 : List Value} (hc1 : (h)[q0]? = some (100, vs1)) (ho1 : ¬ s1 < 0) (hl1 : s1.toNatClampNeg < vs1.length) (k : SW sc m_X10_readsAll d rc rs 54 [some (.ref r0), some (.int (l1 + 1))] [] ((h).set q0 (100, vs1.set s1.toNatClampNeg (.int s2))) P) : SW sc m_X10_readsAll d rc rs 88 [some (.ref r0), some (.int l1)] [.int s2, .int s1, .ref q0] h P := by
  refine sw_iast dX10_readsAll_88 hc1 ho1 hl1 ?_
  refine sw_iinc (v := l1 + 1) dX10_readsAll_89 rfl rfl (by decide) rfl ?_
  show SW sc m_X10_readsAll _ _ _ 92 [some (.ref r0), some (.int (l1 + 1))] [] ((h).set q0 (100, vs1.set s1.toNatClampNeg (.int s2))) P
  exact sw_goto dX10_readsAll_92 (by decide) (k)
theorem b_X10_readsAll_95 {r0 : Nat} {fs2 : List Value} {x2 : Int32} (hc2 : (h)[r0]? = some (10, fs2)) (hv2 : fs2[17]? = some (.int x2)) (kt : x2 = 0 → SW sc m_X10_readsAll d rc rs 118 [none, none] [] h P) (kf : ¬ (x2 = 0) → SW sc m_X10_readsAll d rc rs 102 [some (.ref r0), none] [] h P) : SW sc m_X10_readsAll d rc rs 95 [some (.ref r0), none] [] h P := by
  refine sw_aload_n dX10_readsAll_95 rfl ?_
  refine sw_getf dX10_readsAll_96 lf_X10_169 hc2 hv2 ?_
  exact sw_if_eq dX10_readsAll_99 (by decide) (fun q => (sw_fg [true, false] rfl (kt q))) (fun q => (kf q))
theorem b_X10_readsAll_102 {r0 : Nat} {v2 : Int32} {g2 : ab_H} {fs2 : List Value} (hr2 : (h)[r0]? = some (10, fs2)) (hm2 : MSE m_X10_readsStatement d [.ref r0] h (some (.int v2)) g2) (kt : v2 = 0 → SW sc m_X10_readsAll (d + 1) rc rs 116 [none, none] [] g2 P) (kf : ¬ (v2 = 0) → SW sc m_X10_readsAll (d + 1) rc rs 109 [some (.ref r0), none] [] g2 P) : SW sc m_X10_readsAll (d + 1) rc rs 102 [some (.ref r0), none] [] h P := by
  refine sw_aload_n dX10_readsAll_102 rfl ?_
  refine sw_cV dX10_readsAll_103 lv_X10_256 hm2 hr2 rfl (by decide) rfl rfl rfl (Nat.le_of_ble_eq_true rfl) (fun _ _ => rfl) rfl ?_
  show SW sc m_X10_readsAll _ _ _ 106 [some (.ref r0), none] [.int v2] g2 P
  exact sw_if_eq dX10_readsAll_106 (by decide) (fun q => (sw_fg [true, false] rfl (kt q))) (fun q => (kf q))
theorem b_X10_readsAll_109 {r0 : Nat} {v2 : Int32} {g2 : ab_H} {fs2 : List Value} (hr2 : (h)[r0]? = some (10, fs2)) (hm2 : MSE m_X10_ends d [.ref r0] h (some (.int v2)) g2) (kt : ¬ v2 = 0 → SW sc m_X10_readsAll (d + 1) rc rs 95 [some (.ref r0), none] [] g2 P) (kf : v2 = 0 → SW sc m_X10_readsAll (d + 1) rc rs 116 [none, none] [] g2 P) : SW sc m_X10_readsAll (d + 1) rc rs 109 [some (.ref r0), none] [] h P := by
  refine sw_aload_n dX10_readsAll_109 rfl ?_
  refine sw_cV dX10_readsAll_110 lv_X10_253 hm2 hr2 rfl (by decide) rfl rfl rfl (Nat.le_of_ble_eq_true rfl) (fun _ _ => rfl) rfl ?_
  show SW sc m_X10_readsAll _ _ _ 113 [some (.ref r0), none] [.int v2] g2 P
  exact sw_if_ne dX10_readsAll_113 (by decide) (fun q => (kt q)) (fun q => (sw_fg [true, false] rfl (kf q)))
theorem b_X10_readsAll_116  (hP : P (.inl (some (.int 0))) h) : SW sc m_X10_readsAll d rc rs 116 [none, none] [] h P := by
  refine sw_iconst (v := 0) dX10_readsAll_116 (by decide) ?_
  exact sw_ret (v := (some (.int 0))) dX10_readsAll_117 (rt_n (by decide)) hP
theorem b_X10_readsAll_118  (hP : P (.inl (some (.int 1))) h) : SW sc m_X10_readsAll d rc rs 118 [none, none] [] h P := by
  refine sw_iconst (v := 1) dX10_readsAll_118 (by decide) ?_
  exact sw_ret (v := (some (.int 1))) dX10_readsAll_119 (rt_n (by decide)) hP
theorem b_X10_load_0 {r0 : Nat} {fs3 : List Value} {fs6 : List Value} {x6 : Int32} {fs7 : List Value} {fs10 : List Value} {fs13 : List Value} {fs16 : List Value} {v18 : Int32} {g18 : ab_H} {fs18 : List Value} {fs22 : List Value} (hc3 : (h)[r0]? = some (10, fs3)) (hk3 : 0 < fs3.length) (hc6 : ((h).set r0 (10, fs3.set 0 (.int 0)))[r0]? = some (10, fs6)) (hv6 : fs6[13]? = some (.int x6)) (hc7 : ((h).set r0 (10, fs3.set 0 (.int 0)))[r0]? = some (10, fs7)) (hk7 : 14 < fs7.length) (hc10 : (((h).set r0 (10, fs3.set 0 (.int 0))).set r0 (10, fs7.set 14 (.int x6)))[r0]? = some (10, fs10)) (hk10 : 13 < fs10.length) (hc13 : ((((h).set r0 (10, fs3.set 0 (.int 0))).set r0 (10, fs7.set 14 (.int x6))).set r0 (10, fs10.set 13 (.int 0)))[r0]? = some (10, fs13)) (hk13 : 15 < fs13.length) (hc16 : (((((h).set r0 (10, fs3.set 0 (.int 0))).set r0 (10, fs7.set 14 (.int x6))).set r0 (10, fs10.set 13 (.int 0))).set r0 (10, fs13.set 15 (.int 0)))[r0]? = some (10, fs16)) (hk16 : 9 < fs16.length) (hz16 : narrow .boolean (.int 1) = .int 1 ∧ fits .boolean (.int 1) = true) (hr18 : ((((((h).set r0 (10, fs3.set 0 (.int 0))).set r0 (10, fs7.set 14 (.int x6))).set r0 (10, fs10.set 13 (.int 0))).set r0 (10, fs13.set 15 (.int 0))).set r0 (10, fs16.set 9 (.int 1)))[r0]? = some (10, fs18)) (hm18 : MSE m_X10_readsAll d [.ref r0] ((((((h).set r0 (10, fs3.set 0 (.int 0))).set r0 (10, fs7.set 14 (.int x6))).set r0 (10, fs10.set 13 (.int 0))).set r0 (10, fs13.set 15 (.int 0))).set r0 (10, fs16.set 9 (.int 1))) (some (.int v18)) g18) (hc22 : (g18)[r0]? = some (10, fs22)) (hk22 : 9 < fs22.length) (hz22 : narrow .boolean (.int 0) = .int 0 ∧ fits .boolean (.int 0) = true) (kt : ¬ v18 = 0 → SW sc m_X10_load (d + 1) rc rs 56 [some (.ref r0), none, none] [] ((g18).set r0 (10, fs22.set 9 (.int 0))) P) (kf : v18 = 0 → SW sc m_X10_load (d + 1) rc rs 42 [some (.ref r0), none, none] [] ((g18).set r0 (10, fs22.set 9 (.int 0))) P) : SW sc m_X10_load (d + 1) rc rs 0 [some (.ref r0), none, none] [] h P := by
  refine sw_aload_n dX10_load_0 rfl ?_
  refine sw_iconst (v := 0) dX10_load_1 (by decide) ?_
  refine sw_putf dX10_load_2 lp_X10_1 hc3 hk3 (fun _ _ => ⟨rfl, rfl⟩) ?_
  refine sw_aload_n dX10_load_5 rfl ?_
  refine sw_aload_n dX10_load_6 rfl ?_
  refine sw_getf dX10_load_7 lf_X10_146 hc6 hv6 ?_
  refine sw_putf dX10_load_10 lp_X10_157 hc7 hk7 (fun _ _ => ⟨rfl, rfl⟩) ?_
  refine sw_aload_n dX10_load_13 rfl ?_
  refine sw_iconst (v := 0) dX10_load_14 (by decide) ?_
  refine sw_putf dX10_load_15 lp_X10_146 hc10 hk10 (fun _ _ => ⟨rfl, rfl⟩) ?_
  refine sw_aload_n dX10_load_18 rfl ?_
  refine sw_iconst (v := 0) dX10_load_19 (by decide) ?_
  refine sw_putf dX10_load_20 lp_X10_160 hc13 hk13 (fun _ _ => ⟨rfl, rfl⟩) ?_
  refine sw_aload_n dX10_load_23 rfl ?_
  refine sw_iconst (v := 1) dX10_load_24 (by decide) ?_
  refine sw_putf dX10_load_25 lp_X10_56 hc16 hk16 (fun _ _ => hz16) ?_
  refine sw_aload_n dX10_load_28 rfl ?_
  refine sw_cV dX10_load_29 lv_X10_259 hm18 hr18 rfl (by decide) rfl rfl rfl (Nat.le_of_ble_eq_true rfl) (fun _ _ => rfl) rfl ?_
  show SW sc m_X10_load _ _ _ 32 [some (.ref r0), none, none] [.int v18] g18 P
  refine sw_istore_n dX10_load_32 (by decide) rfl ?_
  show SW sc m_X10_load _ _ _ 33 [some (.ref r0), some (.int v18), none] [] g18 P
  refine sw_aload_n dX10_load_33 rfl ?_
  refine sw_iconst (v := 0) dX10_load_34 (by decide) ?_
  refine sw_putf dX10_load_35 lp_X10_56 hc22 hk22 (fun _ _ => hz22) ?_
  refine sw_iload_n dX10_load_38 rfl ?_
  exact sw_if_ne dX10_load_39 (by decide) (fun q => (sw_fg [false, true, false] rfl (kt q))) (fun q => (sw_fg [false, true, false] rfl (kf q)))
theorem b_X10_load_42 {r0 : Nat} {fs3 : List Value} {x3 : Int32} {fs6 : List Value} {x6 : Int32} (hc3 : (h)[r0]? = some (10, fs3)) (hv3 : fs3[20]? = some (.int x3)) (hc6 : (h)[r0]? = some (10, fs6)) (hv6 : fs6[19]? = some (.int x6)) (hP : P (.inl (some (.int (-((8 * x3) + x6))))) h) : SW sc m_X10_load d rc rs 42 [some (.ref r0), none, none] [] h P := by
  refine sw_bipush (v := 8) dX10_load_42 (by decide) ?_
  refine sw_aload_n dX10_load_44 rfl ?_
  refine sw_getf dX10_load_45 lf_X10_193 hc3 hv3 ?_
  refine sw_imul dX10_load_48 ?_
  refine sw_aload_n dX10_load_49 rfl ?_
  refine sw_getf dX10_load_50 lf_X10_190 hc6 hv6 ?_
  refine sw_iadd dX10_load_53 ?_
  refine sw_ineg dX10_load_54 ?_
  exact sw_ret (v := (some (.int (-((8 * x3) + x6))))) dX10_load_55 rt_i hP
theorem b_X10_load_56 {r0 : Nat} {fs3 : List Value} {x3 : Int32} {fs4 : List Value} (hc3 : (h)[r0]? = some (10, fs3)) (hv3 : fs3[10]? = some (.int x3)) (hc4 : (h)[r0]? = some (10, fs4)) (hk4 : 6 < fs4.length) (k : SW sc m_X10_load d rc rs 66 [some (.ref r0), none, some (.int 0)] [] ((h).set r0 (10, fs4.set 6 (.int x3))) P) : SW sc m_X10_load d rc rs 56 [some (.ref r0), none, none] [] h P := by
  refine sw_aload_n dX10_load_56 rfl ?_
  refine sw_aload_n dX10_load_57 rfl ?_
  refine sw_getf dX10_load_58 lf_X10_60 hc3 hv3 ?_
  refine sw_putf dX10_load_61 lp_X10_35 hc4 hk4 (fun _ _ => ⟨rfl, rfl⟩) ?_
  refine sw_iconst (v := 0) dX10_load_64 (by decide) ?_
  refine sw_istore_n dX10_load_65 (by decide) rfl ?_
  show SW sc m_X10_load _ _ _ 66 [some (.ref r0), none, some (.int 0)] [] ((h).set r0 (10, fs4.set 6 (.int x3))) P
  exact (k)
theorem b_X10_load_66 {r0 : Nat} {l2 : Int32} (kt : 20 ≤ l2 → SW sc m_X10_load d rc rs 90 [some (.ref r0), none, none] [] h P) (kf : ¬ (20 ≤ l2) → SW sc m_X10_load d rc rs 72 [some (.ref r0), none, some (.int l2)] [] h P) : SW sc m_X10_load d rc rs 66 [some (.ref r0), none, some (.int l2)] [] h P := by
  refine sw_iload_n dX10_load_66 rfl ?_
  refine sw_bipush (v := 20) dX10_load_67 (by decide) ?_
  exact sw_icmp_ge dX10_load_69 (by decide) (fun q => (sw_fg [false, false, true] rfl (kt q))) (fun q => (kf q))
theorem b_X10_load_72 {r0 : Nat} {l2 : Int32} {fs2 : List Value} {a2 : Nat} {fs5 : List Value} {a5 : Nat} {vs7 : List Value} {x7 : Int32} {vs8 : List Value} (hc2 : (h)[r0]? = some (10, fs2)) (hv2 : fs2[1]? = some (.ref a2)) (hc5 : (h)[r0]? = some (10, fs5)) (hv5 : fs5[2]? = some (.ref a5)) (hc7 : (h)[a5]? = some (100, vs7)) (ho7 : ¬ l2 < 0) (hi7 : vs7[l2.toNatClampNeg]? = some (.int x7)) (hc8 : (h)[a2]? = some (100, vs8)) (ho8 : ¬ l2 < 0) (hl8 : l2.toNatClampNeg < vs8.length) (k : SW sc m_X10_load d rc rs 66 [some (.ref r0), none, some (.int (l2 + 1))] [] ((h).set a2 (100, vs8.set l2.toNatClampNeg (.int x7))) P) : SW sc m_X10_load d rc rs 72 [some (.ref r0), none, some (.int l2)] [] h P := by
  refine sw_aload_n dX10_load_72 rfl ?_
  refine sw_getf dX10_load_73 lf_X10_19 hc2 hv2 ?_
  refine sw_iload_n dX10_load_76 rfl ?_
  refine sw_aload_n dX10_load_77 rfl ?_
  refine sw_getf dX10_load_78 lf_X10_23 hc5 hv5 ?_
  refine sw_iload_n dX10_load_81 rfl ?_
  refine sw_iald dX10_load_82 hc7 ho7 hi7 ?_
  refine sw_iast dX10_load_83 hc8 ho8 hl8 ?_
  refine sw_iinc (v := l2 + 1) dX10_load_84 rfl rfl (by decide) rfl ?_
  show SW sc m_X10_load _ _ _ 87 [some (.ref r0), none, some (.int (l2 + 1))] [] ((h).set a2 (100, vs8.set l2.toNatClampNeg (.int x7))) P
  exact sw_goto dX10_load_87 (by decide) (k)
theorem b_X10_load_90 {r0 : Nat} (k : SW sc m_X10_load d rc rs 92 [some (.ref r0), none, some (.int 0)] [] h P) : SW sc m_X10_load d rc rs 90 [some (.ref r0), none, none] [] h P := by
  refine sw_iconst (v := 0) dX10_load_90 (by decide) ?_
  refine sw_istore_n dX10_load_91 (by decide) rfl ?_
  show SW sc m_X10_load _ _ _ 92 [some (.ref r0), none, some (.int 0)] [] h P
  exact (k)
theorem b_X10_load_92 {r0 : Nat} {l2 : Int32} (kt : 10 ≤ l2 → SW sc m_X10_load d rc rs 111 [some (.ref r0), none, none] [] h P) (kf : ¬ (10 ≤ l2) → SW sc m_X10_load d rc rs 98 [some (.ref r0), none, some (.int l2)] [] h P) : SW sc m_X10_load d rc rs 92 [some (.ref r0), none, some (.int l2)] [] h P := by
  refine sw_iload_n dX10_load_92 rfl ?_
  refine sw_bipush (v := 10) dX10_load_93 (by decide) ?_
  exact sw_icmp_ge dX10_load_95 (by decide) (fun q => (sw_fg [false, false, true] rfl (kt q))) (fun q => (kf q))
theorem b_X10_load_98 {r0 : Nat} {l2 : Int32} {fs2 : List Value} {a2 : Nat} {vs5 : List Value} (hc2 : (h)[r0]? = some (10, fs2)) (hv2 : fs2[5]? = some (.ref a2)) (hc5 : (h)[a2]? = some (100, vs5)) (ho5 : ¬ l2 < 0) (hl5 : l2.toNatClampNeg < vs5.length) (k : SW sc m_X10_load d rc rs 92 [some (.ref r0), none, some (.int (l2 + 1))] [] ((h).set a2 (100, vs5.set l2.toNatClampNeg (.int 0))) P) : SW sc m_X10_load d rc rs 98 [some (.ref r0), none, some (.int l2)] [] h P := by
  refine sw_aload_n dX10_load_98 rfl ?_
  refine sw_getf dX10_load_99 lf_X10_32 hc2 hv2 ?_
  refine sw_iload_n dX10_load_102 rfl ?_
  refine sw_iconst (v := 0) dX10_load_103 (by decide) ?_
  refine sw_iast dX10_load_104 hc5 ho5 hl5 ?_
  refine sw_iinc (v := l2 + 1) dX10_load_105 rfl rfl (by decide) rfl ?_
  show SW sc m_X10_load _ _ _ 108 [some (.ref r0), none, some (.int (l2 + 1))] [] ((h).set a2 (100, vs5.set l2.toNatClampNeg (.int 0))) P
  exact sw_goto dX10_load_108 (by decide) (k)
theorem b_X10_load_111 {r0 : Nat} {fs3 : List Value} {fs6 : List Value} {v8 : Int32} {g8 : ab_H} {fs8 : List Value} (hc3 : (h)[r0]? = some (10, fs3)) (hk3 : 7 < fs3.length) (hc6 : ((h).set r0 (10, fs3.set 7 (.int 0)))[r0]? = some (10, fs6)) (hk6 : 8 < fs6.length) (hr8 : (((h).set r0 (10, fs3.set 7 (.int 0))).set r0 (10, fs6.set 8 (.int 0)))[r0]? = some (10, fs8)) (hm8 : MSE m_X10_edges d [.ref r0] (((h).set r0 (10, fs3.set 7 (.int 0))).set r0 (10, fs6.set 8 (.int 0))) (some (.int v8)) g8) (hP : P (.inl (some (.int v8))) g8) : SW sc m_X10_load (d + 1) rc rs 111 [some (.ref r0), none, none] [] h P := by
  refine sw_aload_n dX10_load_111 rfl ?_
  refine sw_iconst (v := 0) dX10_load_112 (by decide) ?_
  refine sw_putf dX10_load_113 lp_X10_63 hc3 hk3 (fun _ _ => ⟨rfl, rfl⟩) ?_
  refine sw_aload_n dX10_load_116 rfl ?_
  refine sw_iconst (v := 0) dX10_load_117 (by decide) ?_
  refine sw_putf dX10_load_118 lp_X10_262 hc6 hk6 (fun _ _ => ⟨rfl, rfl⟩) ?_
  refine sw_aload_n dX10_load_121 rfl ?_
  refine sw_cV dX10_load_122 lv_X10_265 hm8 hr8 rfl (by decide) rfl rfl rfl (Nat.le_of_ble_eq_true rfl) (fun _ _ => rfl) rfl ?_
  show SW sc m_X10_load _ _ _ 125 [some (.ref r0), none, none] [.int v8] g8 P
  exact sw_ret (v := (some (.int v8))) dX10_load_125 rt_i hP
theorem b_X10_edges_0 {r0 : Nat} (k : SW sc m_X10_edges d rc rs 4 [some (.ref r0), some (.int 0), some (.int 0)] [] h P) : SW sc m_X10_edges d rc rs 0 [some (.ref r0), none, none] [] h P := by
  refine sw_iconst (v := 0) dX10_edges_0 (by decide) ?_
  refine sw_istore_n dX10_edges_1 (by decide) rfl ?_
  show SW sc m_X10_edges _ _ _ 2 [some (.ref r0), some (.int 0), none] [] h P
  refine sw_iconst (v := 0) dX10_edges_2 (by decide) ?_
  refine sw_istore_n dX10_edges_3 (by decide) rfl ?_
  show SW sc m_X10_edges _ _ _ 4 [some (.ref r0), some (.int 0), some (.int 0)] [] h P
  exact (k)
theorem b_X10_edges_4 {r0 : Nat} {l1 : Int32} {l2 : Int32} {fs3 : List Value} {x3 : Int32} (hc3 : (h)[r0]? = some (10, fs3)) (hv3 : fs3[6]? = some (.int x3)) (kt : x3 ≤ l2 → SW sc m_X10_edges d rc rs 30 [none, some (.int l1), none] [] h P) (kf : ¬ (x3 ≤ l2) → SW sc m_X10_edges d rc rs 12 [some (.ref r0), some (.int l1), some (.int l2)] [] h P) : SW sc m_X10_edges d rc rs 4 [some (.ref r0), some (.int l1), some (.int l2)] [] h P := by
  refine sw_iload_n dX10_edges_4 rfl ?_
  refine sw_aload_n dX10_edges_5 rfl ?_
  refine sw_getf dX10_edges_6 lf_X10_35 hc3 hv3 ?_
  exact sw_icmp_ge dX10_edges_9 (by decide) (fun q => (sw_fg [true, false, true] rfl (kt q))) (fun q => (kf q))
theorem b_X10_edges_12 {r0 : Nat} {l1 : Int32} {l2 : Int32} {fs3 : List Value} {a3 : Nat} {vs5 : List Value} {x5 : Int32} {v6 : Int32} {g6 : ab_H} (hc3 : (h)[r0]? = some (10, fs3)) (hv3 : fs3[1]? = some (.ref a3)) (hc5 : (h)[a3]? = some (100, vs5)) (ho5 : ¬ l2 < 0) (hi5 : vs5[l2.toNatClampNeg]? = some (.int x5)) (hm6 : MSE m_X10_ones d [.int x5] h (some (.int v6)) g6) (k : SW sc m_X10_edges (d + 1) rc rs 4 [some (.ref r0), some (.int (l1 + v6)), some (.int (l2 + 1))] [] g6 P) : SW sc m_X10_edges (d + 1) rc rs 12 [some (.ref r0), some (.int l1), some (.int l2)] [] h P := by
  refine sw_iload_n dX10_edges_12 rfl ?_
  refine sw_aload_n dX10_edges_13 rfl ?_
  refine sw_getf dX10_edges_14 lf_X10_19 hc3 hv3 ?_
  refine sw_iload_n dX10_edges_17 rfl ?_
  refine sw_iald dX10_edges_18 hc5 ho5 hi5 ?_
  refine sw_cS dX10_edges_19 ls_X10_111 hm6 rfl rfl (Nat.le_of_ble_eq_true rfl) (fun _ _ => rfl) rfl ?_
  show SW sc m_X10_edges _ _ _ 22 [some (.ref r0), some (.int l1), some (.int l2)] [.int v6, .int l1] g6 P
  refine sw_iadd dX10_edges_22 ?_
  refine sw_istore_n dX10_edges_23 (by decide) rfl ?_
  show SW sc m_X10_edges _ _ _ 24 [some (.ref r0), some (.int (l1 + v6)), some (.int l2)] [] g6 P
  refine sw_iinc (v := l2 + 1) dX10_edges_24 rfl rfl (by decide) rfl ?_
  show SW sc m_X10_edges _ _ _ 27 [some (.ref r0), some (.int (l1 + v6)), some (.int (l2 + 1))] [] g6 P
  exact sw_goto dX10_edges_27 (by decide) (k)
theorem b_X10_edges_30 {l1 : Int32} (hz3 : ¬ (2 : Int32) = 0) (hP : P (.inl (some (.int (l1 / 2)))) h) : SW sc m_X10_edges d rc rs 30 [none, some (.int l1), none] [] h P := by
  refine sw_iload_n dX10_edges_30 rfl ?_
  refine sw_iconst (v := 2) dX10_edges_31 (by decide) ?_
  refine sw_idiv dX10_edges_32 hz3 ?_
  exact sw_ret (v := (some (.int (l1 / 2)))) dX10_edges_33 rt_i hP
theorem b_X10_isVertex_0 {r0 : Nat} {l1 : Int32} {fs4 : List Value} {x4 : Int32} {v7 : Int32} {g7 : ab_H} (hc4 : (h)[r0]? = some (10, fs4)) (hv4 : fs4[6]? = some (.int x4)) (hm7 : MSE m_X10_isIn d [.int l1, .int 0, .int (x4 - 1)] h (some (.int v7)) g7) (hz8 : narrow .boolean (.int v7) = .int v7) (hP : P (.inl (some (.int v7))) g7) : SW sc m_X10_isVertex (d + 1) rc rs 0 [some (.ref r0), some (.int l1)] [] h P := by
  refine sw_iload_n dX10_isVertex_0 rfl ?_
  refine sw_iconst (v := 0) dX10_isVertex_1 (by decide) ?_
  refine sw_aload_n dX10_isVertex_2 rfl ?_
  refine sw_getf dX10_isVertex_3 lf_X10_35 hc4 hv4 ?_
  refine sw_iconst (v := 1) dX10_isVertex_6 (by decide) ?_
  refine sw_isub dX10_isVertex_7 ?_
  refine sw_cS dX10_isVertex_8 ls_X10_153 hm7 rfl rfl (Nat.le_of_ble_eq_true rfl) (fun _ _ => rfl) rfl ?_
  show SW sc m_X10_isVertex _ _ _ 11 [some (.ref r0), some (.int l1)] [.int v7] g7 P
  exact sw_ret (v := (some (.int v7))) dX10_isVertex_11 (rt_n hz8) hP
theorem b_X10_forest_0 {r0 : Nat} {l1 : Int32} {fs3 : List Value} {fs6 : List Value} {x6 : Int32} (hc3 : (h)[r0]? = some (10, fs3)) (hk3 : 0 < fs3.length) (hc6 : ((h).set r0 (10, fs3.set 0 (.int 0)))[r0]? = some (10, fs6)) (hv6 : fs6[6]? = some (.int x6)) (k0 : l1 = 0 → SW sc m_X10_forest d rc rs 68 [some (.ref r0), none, none, none, none] [] ((h).set r0 (10, fs3.set 0 (.int 0))) P) (k1 : l1 = 1 → SW sc m_X10_forest d rc rs 73 [some (.ref r0), none, none, none, none] [] ((h).set r0 (10, fs3.set 0 (.int 0))) P) (k2 : l1 = 2 → SW sc m_X10_forest d rc rs 78 [some (.ref r0), none, none, none, none] [] ((h).set r0 (10, fs3.set 0 (.int 0))) P) (k3 : l1 = 3 → SW sc m_X10_forest d rc rs 83 [some (.ref r0), none, some (.int ((1 <<< (x6 &&& 31)) - 1)), none, none] [] ((h).set r0 (10, fs3.set 0 (.int 0))) P) (k4 : l1 = 4 → SW sc m_X10_forest d rc rs 89 [some (.ref r0), none, none, some (.int 0), none] [] ((h).set r0 (10, fs3.set 0 (.int 0))) P) (k5 : l1 = 5 → SW sc m_X10_forest d rc rs 127 [some (.ref r0), none, some (.int ((1 <<< (x6 &&& 31)) - 1)), none, none] [] ((h).set r0 (10, fs3.set 0 (.int 0))) P) (k6 : l1 = 6 → SW sc m_X10_forest d rc rs 134 [some (.ref r0), none, none, some (.int 0), none] [] ((h).set r0 (10, fs3.set 0 (.int 0))) P) (k7 : l1 = 7 → SW sc m_X10_forest d rc rs 171 [some (.ref r0), none, none, none, none] [] ((h).set r0 (10, fs3.set 0 (.int 0))) P) (k8 : l1 = 8 → SW sc m_X10_forest d rc rs 176 [some (.ref r0), none, none, none, none] [] ((h).set r0 (10, fs3.set 0 (.int 0))) P) (kd : (∀ i : Nat, i < 9 → ¬ l1 = Int32.ofNat i) → SW sc m_X10_forest d rc rs 181 [none, none, none, none, none] [] ((h).set r0 (10, fs3.set 0 (.int 0))) P) : SW sc m_X10_forest d rc rs 0 [some (.ref r0), some (.int l1), none, none, none] [] h P := by
  refine sw_aload_n dX10_forest_0 rfl ?_
  refine sw_iconst (v := 0) dX10_forest_1 (by decide) ?_
  refine sw_putf dX10_forest_2 lp_X10_1 hc3 hk3 (fun _ _ => ⟨rfl, rfl⟩) ?_
  refine sw_iconst (v := 1) dX10_forest_5 (by decide) ?_
  refine sw_aload_n dX10_forest_6 rfl ?_
  refine sw_getf dX10_forest_7 lf_X10_35 hc6 hv6 ?_
  refine sw_ishl dX10_forest_10 ?_
  refine sw_iconst (v := 1) dX10_forest_11 (by decide) ?_
  refine sw_isub dX10_forest_12 ?_
  refine sw_istore_n dX10_forest_13 (by decide) rfl ?_
  show SW sc m_X10_forest _ _ _ 14 [some (.ref r0), some (.int l1), some (.int ((1 <<< (x6 &&& 31)) - 1)), none, none] [] ((h).set r0 (10, fs3.set 0 (.int 0))) P
  refine sw_iconst (v := 0) dX10_forest_14 (by decide) ?_
  refine sw_istore_n dX10_forest_15 (by decide) rfl ?_
  show SW sc m_X10_forest _ _ _ 16 [some (.ref r0), some (.int l1), some (.int ((1 <<< (x6 &&& 31)) - 1)), some (.int 0), none] [] ((h).set r0 (10, fs3.set 0 (.int 0))) P
  refine sw_iload_n dX10_forest_16 rfl ?_
  by_cases ho : (l1).toInt < 0 ∨ 8 < (l1).toInt
  · exact sw_tableOut dX10_forest_17 ho (by decide) (sw_fg [true, true, true, true, false] rfl (kd (ab_swOut (n := 9) (by decide) ho)))
  · obtain ⟨i, hi, hx⟩ := ab_swIn (n := 9) (by decide) ho
    by_cases h0 : i = 0
    · subst h0
      exact sw_tableIn (off := 51) dX10_forest_17 (by rw [hx]; decide) (by rw [hx]; decide) (by rw [hx]; decide) (by decide) (sw_fg [false, true, true, true, false] rfl (k0 (by rw [hx]; decide)))
    by_cases h1 : i = 1
    · subst h1
      exact sw_tableIn (off := 56) dX10_forest_17 (by rw [hx]; decide) (by rw [hx]; decide) (by rw [hx]; decide) (by decide) (sw_fg [false, true, true, true, false] rfl (k1 (by rw [hx]; decide)))
    by_cases h2 : i = 2
    · subst h2
      exact sw_tableIn (off := 61) dX10_forest_17 (by rw [hx]; decide) (by rw [hx]; decide) (by rw [hx]; decide) (by decide) (sw_fg [false, true, true, true, false] rfl (k2 (by rw [hx]; decide)))
    by_cases h3 : i = 3
    · subst h3
      exact sw_tableIn (off := 66) dX10_forest_17 (by rw [hx]; decide) (by rw [hx]; decide) (by rw [hx]; decide) (by decide) (sw_fg [false, true, false, true, false] rfl (k3 (by rw [hx]; decide)))
    by_cases h4 : i = 4
    · subst h4
      exact sw_tableIn (off := 72) dX10_forest_17 (by rw [hx]; decide) (by rw [hx]; decide) (by rw [hx]; decide) (by decide) (sw_fg [false, true, true, false, false] rfl (k4 (by rw [hx]; decide)))
    by_cases h5 : i = 5
    · subst h5
      exact sw_tableIn (off := 110) dX10_forest_17 (by rw [hx]; decide) (by rw [hx]; decide) (by rw [hx]; decide) (by decide) (sw_fg [false, true, false, true, false] rfl (k5 (by rw [hx]; decide)))
    by_cases h6 : i = 6
    · subst h6
      exact sw_tableIn (off := 117) dX10_forest_17 (by rw [hx]; decide) (by rw [hx]; decide) (by rw [hx]; decide) (by decide) (sw_fg [false, true, true, false, false] rfl (k6 (by rw [hx]; decide)))
    by_cases h7 : i = 7
    · subst h7
      exact sw_tableIn (off := 154) dX10_forest_17 (by rw [hx]; decide) (by rw [hx]; decide) (by rw [hx]; decide) (by decide) (sw_fg [false, true, true, true, false] rfl (k7 (by rw [hx]; decide)))
    by_cases h8 : i = 8
    · subst h8
      exact sw_tableIn (off := 159) dX10_forest_17 (by rw [hx]; decide) (by rw [hx]; decide) (by rw [hx]; decide) (by decide) (sw_fg [false, true, true, true, false] rfl (k8 (by rw [hx]; decide)))
    exact absurd hi (by omega)
theorem b_X10_forest_68 {r0 : Nat} {fs2 : List Value} {x2 : Int32} (hc2 : (h)[r0]? = some (10, fs2)) (hv2 : fs2[6]? = some (.int x2)) (hP : P (.inl (some (.int x2))) h) : SW sc m_X10_forest d rc rs 68 [some (.ref r0), none, none, none, none] [] h P := by
  refine sw_aload_n dX10_forest_68 rfl ?_
  refine sw_getf dX10_forest_69 lf_X10_35 hc2 hv2 ?_
  exact sw_ret (v := (some (.int x2))) dX10_forest_72 rt_i hP
theorem b_X10_forest_73 {r0 : Nat} {v2 : Int32} {g2 : ab_H} {fs2 : List Value} (hr2 : (h)[r0]? = some (10, fs2)) (hm2 : MSE m_X10_edges d [.ref r0] h (some (.int v2)) g2) (hP : P (.inl (some (.int v2))) g2) : SW sc m_X10_forest (d + 1) rc rs 73 [some (.ref r0), none, none, none, none] [] h P := by
  refine sw_aload_n dX10_forest_73 rfl ?_
  refine sw_cV dX10_forest_74 lv_X10_265 hm2 hr2 rfl (by decide) rfl rfl rfl (Nat.le_of_ble_eq_true rfl) (fun _ _ => rfl) rfl ?_
  show SW sc m_X10_forest _ _ _ 77 [some (.ref r0), none, none, none, none] [.int v2] g2 P
  exact sw_ret (v := (some (.int v2))) dX10_forest_77 rt_i hP
theorem b_X10_forest_78 {r0 : Nat} {v2 : Int32} {g2 : ab_H} {fs2 : List Value} (hr2 : (h)[r0]? = some (10, fs2)) (hm2 : MSE m_X10_componentMany d [.ref r0] h (some (.int v2)) g2) (hP : P (.inl (some (.int v2))) g2) : SW sc m_X10_forest (d + 1) rc rs 78 [some (.ref r0), none, none, none, none] [] h P := by
  refine sw_aload_n dX10_forest_78 rfl ?_
  refine sw_cV dX10_forest_79 lv_X10_268 hm2 hr2 rfl (by decide) rfl rfl rfl (Nat.le_of_ble_eq_true rfl) (fun _ _ => rfl) rfl ?_
  show SW sc m_X10_forest _ _ _ 82 [some (.ref r0), none, none, none, none] [.int v2] g2 P
  exact sw_ret (v := (some (.int v2))) dX10_forest_82 rt_i hP
theorem b_X10_forest_83 {r0 : Nat} {l2 : Int32} {v3 : Int32} {g3 : ab_H} {fs3 : List Value} (hr3 : (h)[r0]? = some (10, fs3)) (hm3 : MSE m_X10_leavesIn d [.ref r0, .int l2] h (some (.int v3)) g3) (hP : P (.inl (some (.int v3))) g3) : SW sc m_X10_forest (d + 1) rc rs 83 [some (.ref r0), none, some (.int l2), none, none] [] h P := by
  refine sw_aload_n dX10_forest_83 rfl ?_
  refine sw_iload_n dX10_forest_84 rfl ?_
  refine sw_cV dX10_forest_85 lv_X10_271 hm3 hr3 rfl (by decide) rfl rfl rfl (Nat.le_of_ble_eq_true rfl) (fun _ _ => rfl) rfl ?_
  show SW sc m_X10_forest _ _ _ 88 [some (.ref r0), none, some (.int l2), none, none] [.int v3] g3 P
  exact sw_ret (v := (some (.int v3))) dX10_forest_88 rt_i hP
theorem b_X10_forest_89 {r0 : Nat} {l3 : Int32} (k : SW sc m_X10_forest d rc rs 92 [some (.ref r0), none, none, some (.int l3), some (.int 0)] [] h P) : SW sc m_X10_forest d rc rs 89 [some (.ref r0), none, none, some (.int l3), none] [] h P := by
  refine sw_iconst (v := 0) dX10_forest_89 (by decide) ?_
  refine sw_istore dX10_forest_90 (by decide) rfl ?_
  show SW sc m_X10_forest _ _ _ 92 [some (.ref r0), none, none, some (.int l3), some (.int 0)] [] h P
  exact (k)
theorem b_X10_forest_92 {r0 : Nat} {l3 : Int32} {l4 : Int32} {fs3 : List Value} {x3 : Int32} (hc3 : (h)[r0]? = some (10, fs3)) (hv3 : fs3[6]? = some (.int x3)) (kt : x3 ≤ l4 → SW sc m_X10_forest d rc rs 125 [none, none, none, some (.int l3), none] [] h P) (kf : ¬ (x3 ≤ l4) → SW sc m_X10_forest d rc rs 101 [some (.ref r0), none, none, some (.int l3), some (.int l4)] [] h P) : SW sc m_X10_forest d rc rs 92 [some (.ref r0), none, none, some (.int l3), some (.int l4)] [] h P := by
  refine sw_iload dX10_forest_92 rfl ?_
  refine sw_aload_n dX10_forest_94 rfl ?_
  refine sw_getf dX10_forest_95 lf_X10_35 hc3 hv3 ?_
  exact sw_icmp_ge dX10_forest_98 (by decide) (fun q => (sw_fg [true, false, false, false, true] rfl (kt q))) (fun q => (kf q))
theorem b_X10_forest_101 {r0 : Nat} {l3 : Int32} {l4 : Int32} {fs3 : List Value} {a3 : Nat} {vs5 : List Value} {x5 : Int32} (hc3 : (h)[r0]? = some (10, fs3)) (hv3 : fs3[1]? = some (.ref a3)) (hc5 : (h)[a3]? = some (100, vs5)) (ho5 : ¬ l4 < 0) (hi5 : vs5[l4.toNatClampNeg]? = some (.int x5)) (kt : ¬ x5 = 0 → SW sc m_X10_forest d rc rs 116 [some (.ref r0), none, none, none, some (.int l4)] [.int l3] h P) (kf : x5 = 0 → SW sc m_X10_forest d rc rs 112 [some (.ref r0), none, none, none, some (.int l4)] [.int l3] h P) : SW sc m_X10_forest d rc rs 101 [some (.ref r0), none, none, some (.int l3), some (.int l4)] [] h P := by
  refine sw_iload_n dX10_forest_101 rfl ?_
  refine sw_aload_n dX10_forest_102 rfl ?_
  refine sw_getf dX10_forest_103 lf_X10_19 hc3 hv3 ?_
  refine sw_iload dX10_forest_106 rfl ?_
  refine sw_iald dX10_forest_108 hc5 ho5 hi5 ?_
  exact sw_if_ne dX10_forest_109 (by decide) (fun q => (sw_fg [false, false, false, true, false] rfl (kt q))) (fun q => (sw_fg [false, false, false, true, false] rfl (kf q)))
theorem b_X10_forest_112 {r0 : Nat} {l4 : Int32} {s0 : Int32} (k : SW sc m_X10_forest d rc rs 117 [some (.ref r0), none, none, none, some (.int l4)] [.int 1, .int s0] h P) : SW sc m_X10_forest d rc rs 112 [some (.ref r0), none, none, none, some (.int l4)] [.int s0] h P := by
  refine sw_iconst (v := 1) dX10_forest_112 (by decide) ?_
  exact sw_goto dX10_forest_113 (by decide) (k)
theorem b_X10_forest_116 {r0 : Nat} {l4 : Int32} {s0 : Int32} (k : SW sc m_X10_forest d rc rs 117 [some (.ref r0), none, none, none, some (.int l4)] [.int 0, .int s0] h P) : SW sc m_X10_forest d rc rs 116 [some (.ref r0), none, none, none, some (.int l4)] [.int s0] h P := by
  refine sw_iconst (v := 0) dX10_forest_116 (by decide) ?_
  exact (k)
theorem b_X10_forest_117 {r0 : Nat} {l4 : Int32} {s0 : Int32} {s1 : Int32} (k : SW sc m_X10_forest d rc rs 92 [some (.ref r0), none, none, some (.int (s0 + s1)), some (.int (l4 + 1))] [] h P) : SW sc m_X10_forest d rc rs 117 [some (.ref r0), none, none, none, some (.int l4)] [.int s1, .int s0] h P := by
  refine sw_iadd dX10_forest_117 ?_
  refine sw_istore_n dX10_forest_118 (by decide) rfl ?_
  show SW sc m_X10_forest _ _ _ 119 [some (.ref r0), none, none, some (.int (s0 + s1)), some (.int l4)] [] h P
  refine sw_iinc (v := l4 + 1) dX10_forest_119 rfl rfl (by decide) rfl ?_
  show SW sc m_X10_forest _ _ _ 122 [some (.ref r0), none, none, some (.int (s0 + s1)), some (.int (l4 + 1))] [] h P
  exact sw_goto dX10_forest_122 (by decide) (k)
theorem b_X10_forest_125 {l3 : Int32} (hP : P (.inl (some (.int l3))) h) : SW sc m_X10_forest d rc rs 125 [none, none, none, some (.int l3), none] [] h P := by
  refine sw_iload_n dX10_forest_125 rfl ?_
  exact sw_ret (v := (some (.int l3))) dX10_forest_126 rt_i hP
theorem b_X10_forest_127 {r0 : Nat} {l2 : Int32} {v4 : Int32} {g4 : ab_H} {fs4 : List Value} (hr4 : (h)[r0]? = some (10, fs4)) (hm4 : MSE m_X10_weightOf d [.ref r0, .int l2, .int 1] h (some (.int v4)) g4) (hP : P (.inl (some (.int v4))) g4) : SW sc m_X10_forest (d + 1) rc rs 127 [some (.ref r0), none, some (.int l2), none, none] [] h P := by
  refine sw_aload_n dX10_forest_127 rfl ?_
  refine sw_iload_n dX10_forest_128 rfl ?_
  refine sw_iconst (v := 1) dX10_forest_129 (by decide) ?_
  refine sw_cV dX10_forest_130 lv_X10_98 hm4 hr4 rfl (by decide) rfl rfl rfl (Nat.le_of_ble_eq_true rfl) (fun _ _ => rfl) rfl ?_
  show SW sc m_X10_forest _ _ _ 133 [some (.ref r0), none, some (.int l2), none, none] [.int v4] g4 P
  exact sw_ret (v := (some (.int v4))) dX10_forest_133 rt_i hP
theorem b_X10_forest_134 {r0 : Nat} {l3 : Int32} (k : SW sc m_X10_forest d rc rs 137 [some (.ref r0), none, none, some (.int l3), some (.int 0)] [] h P) : SW sc m_X10_forest d rc rs 134 [some (.ref r0), none, none, some (.int l3), none] [] h P := by
  refine sw_iconst (v := 0) dX10_forest_134 (by decide) ?_
  refine sw_istore dX10_forest_135 (by decide) rfl ?_
  show SW sc m_X10_forest _ _ _ 137 [some (.ref r0), none, none, some (.int l3), some (.int 0)] [] h P
  exact (k)
theorem b_X10_forest_137 {r0 : Nat} {l3 : Int32} {l4 : Int32} {v3 : Int32} {g3 : ab_H} {fs3 : List Value} (hr3 : (h)[r0]? = some (10, fs3)) (hm3 : MSE m_X10_componentMany d [.ref r0] h (some (.int v3)) g3) (kt : v3 ≤ l4 → SW sc m_X10_forest (d + 1) rc rs 169 [none, none, none, some (.int l3), none] [] g3 P) (kf : ¬ (v3 ≤ l4) → SW sc m_X10_forest (d + 1) rc rs 146 [some (.ref r0), none, none, some (.int l3), some (.int l4)] [] g3 P) : SW sc m_X10_forest (d + 1) rc rs 137 [some (.ref r0), none, none, some (.int l3), some (.int l4)] [] h P := by
  refine sw_iload dX10_forest_137 rfl ?_
  refine sw_aload_n dX10_forest_139 rfl ?_
  refine sw_cV dX10_forest_140 lv_X10_268 hm3 hr3 rfl (by decide) rfl rfl rfl (Nat.le_of_ble_eq_true rfl) (fun _ _ => rfl) rfl ?_
  show SW sc m_X10_forest _ _ _ 143 [some (.ref r0), none, none, some (.int l3), some (.int l4)] [.int v3, .int l4] g3 P
  exact sw_icmp_ge dX10_forest_143 (by decide) (fun q => (sw_fg [true, false, false, false, true] rfl (kt q))) (fun q => (kf q))
theorem b_X10_forest_146 {r0 : Nat} {l3 : Int32} {l4 : Int32} {v4 : Int32} {g4 : ab_H} {fs4 : List Value} (hr4 : (h)[r0]? = some (10, fs4)) (hm4 : MSE m_X10_isNew d [.ref r0, .int l4] h (some (.int v4)) g4) (kt : v4 = 0 → SW sc m_X10_forest (d + 1) rc rs 160 [some (.ref r0), none, none, none, some (.int l4)] [.int l3] g4 P) (kf : ¬ (v4 = 0) → SW sc m_X10_forest (d + 1) rc rs 156 [some (.ref r0), none, none, none, some (.int l4)] [.int l3] g4 P) : SW sc m_X10_forest (d + 1) rc rs 146 [some (.ref r0), none, none, some (.int l3), some (.int l4)] [] h P := by
  refine sw_iload_n dX10_forest_146 rfl ?_
  refine sw_aload_n dX10_forest_147 rfl ?_
  refine sw_iload dX10_forest_148 rfl ?_
  refine sw_cV dX10_forest_150 lv_X10_142 hm4 hr4 rfl (by decide) rfl rfl rfl (Nat.le_of_ble_eq_true rfl) (fun _ _ => rfl) rfl ?_
  show SW sc m_X10_forest _ _ _ 153 [some (.ref r0), none, none, some (.int l3), some (.int l4)] [.int v4, .int l3] g4 P
  exact sw_if_eq dX10_forest_153 (by decide) (fun q => (sw_fg [false, false, false, true, false] rfl (kt q))) (fun q => (sw_fg [false, false, false, true, false] rfl (kf q)))
theorem b_X10_forest_156 {r0 : Nat} {l4 : Int32} {s0 : Int32} (k : SW sc m_X10_forest d rc rs 161 [some (.ref r0), none, none, none, some (.int l4)] [.int 1, .int s0] h P) : SW sc m_X10_forest d rc rs 156 [some (.ref r0), none, none, none, some (.int l4)] [.int s0] h P := by
  refine sw_iconst (v := 1) dX10_forest_156 (by decide) ?_
  exact sw_goto dX10_forest_157 (by decide) (k)
theorem b_X10_forest_160 {r0 : Nat} {l4 : Int32} {s0 : Int32} (k : SW sc m_X10_forest d rc rs 161 [some (.ref r0), none, none, none, some (.int l4)] [.int 0, .int s0] h P) : SW sc m_X10_forest d rc rs 160 [some (.ref r0), none, none, none, some (.int l4)] [.int s0] h P := by
  refine sw_iconst (v := 0) dX10_forest_160 (by decide) ?_
  exact (k)
theorem b_X10_forest_161 {r0 : Nat} {l4 : Int32} {s0 : Int32} {s1 : Int32} (k : SW sc m_X10_forest d rc rs 137 [some (.ref r0), none, none, some (.int (s0 + s1)), some (.int (l4 + 1))] [] h P) : SW sc m_X10_forest d rc rs 161 [some (.ref r0), none, none, none, some (.int l4)] [.int s1, .int s0] h P := by
  refine sw_iadd dX10_forest_161 ?_
  refine sw_istore_n dX10_forest_162 (by decide) rfl ?_
  show SW sc m_X10_forest _ _ _ 163 [some (.ref r0), none, none, some (.int (s0 + s1)), some (.int l4)] [] h P
  refine sw_iinc (v := l4 + 1) dX10_forest_163 rfl rfl (by decide) rfl ?_
  show SW sc m_X10_forest _ _ _ 166 [some (.ref r0), none, none, some (.int (s0 + s1)), some (.int (l4 + 1))] [] h P
  exact sw_goto dX10_forest_166 (by decide) (k)
theorem b_X10_forest_169 {l3 : Int32} (hP : P (.inl (some (.int l3))) h) : SW sc m_X10_forest d rc rs 169 [none, none, none, some (.int l3), none] [] h P := by
  refine sw_iload_n dX10_forest_169 rfl ?_
  exact sw_ret (v := (some (.int l3))) dX10_forest_170 rt_i hP
theorem b_X10_forest_171 {r0 : Nat} {fs2 : List Value} {x2 : Int32} (hc2 : (h)[r0]? = some (10, fs2)) (hv2 : fs2[8]? = some (.int x2)) (hP : P (.inl (some (.int x2))) h) : SW sc m_X10_forest d rc rs 171 [some (.ref r0), none, none, none, none] [] h P := by
  refine sw_aload_n dX10_forest_171 rfl ?_
  refine sw_getf dX10_forest_172 lf_X10_262 hc2 hv2 ?_
  exact sw_ret (v := (some (.int x2))) dX10_forest_175 rt_i hP
theorem b_X10_forest_176 {r0 : Nat} {fs2 : List Value} {x2 : Int32} (hc2 : (h)[r0]? = some (10, fs2)) (hv2 : fs2[7]? = some (.int x2)) (hP : P (.inl (some (.int x2))) h) : SW sc m_X10_forest d rc rs 176 [some (.ref r0), none, none, none, none] [] h P := by
  refine sw_aload_n dX10_forest_176 rfl ?_
  refine sw_getf dX10_forest_177 lf_X10_63 hc2 hv2 ?_
  exact sw_ret (v := (some (.int x2))) dX10_forest_180 rt_i hP
theorem b_X10_forest_181  (hP : P (.inl (some (.int (-1)))) h) : SW sc m_X10_forest d rc rs 181 [none, none, none, none, none] [] h P := by
  refine sw_iconst (v := (-1)) dX10_forest_181 (by decide) ?_
  exact sw_ret (v := (some (.int (-1)))) dX10_forest_182 rt_i hP
theorem b_X10_prunes_0 {r0 : Nat} (k : SW sc m_X10_prunes d rc rs 4 [some (.ref r0), some (.int 0), some (.int 0), none] [] h P) : SW sc m_X10_prunes d rc rs 0 [some (.ref r0), none, none, none] [] h P := by
  refine sw_iconst (v := 0) dX10_prunes_0 (by decide) ?_
  refine sw_istore_n dX10_prunes_1 (by decide) rfl ?_
  show SW sc m_X10_prunes _ _ _ 2 [some (.ref r0), some (.int 0), none, none] [] h P
  refine sw_iconst (v := 0) dX10_prunes_2 (by decide) ?_
  refine sw_istore_n dX10_prunes_3 (by decide) rfl ?_
  show SW sc m_X10_prunes _ _ _ 4 [some (.ref r0), some (.int 0), some (.int 0), none] [] h P
  exact (k)
theorem b_X10_prunes_4 {r0 : Nat} {l1 : Int32} {l2 : Int32} {fs3 : List Value} {x3 : Int32} (hc3 : (h)[r0]? = some (10, fs3)) (hv3 : fs3[6]? = some (.int x3)) (kt : x3 ≤ l2 → SW sc m_X10_prunes d rc rs 41 [some (.ref r0), some (.int l1), none, none] [] h P) (kf : ¬ (x3 ≤ l2) → SW sc m_X10_prunes d rc rs 12 [some (.ref r0), some (.int l1), some (.int l2), none] [] h P) : SW sc m_X10_prunes d rc rs 4 [some (.ref r0), some (.int l1), some (.int l2), none] [] h P := by
  refine sw_iload_n dX10_prunes_4 rfl ?_
  refine sw_aload_n dX10_prunes_5 rfl ?_
  refine sw_getf dX10_prunes_6 lf_X10_35 hc3 hv3 ?_
  exact sw_icmp_ge dX10_prunes_9 (by decide) (fun q => (sw_fg [false, false, true, false] rfl (kt q))) (fun q => (kf q))
theorem b_X10_prunes_12 {r0 : Nat} {l1 : Int32} {l2 : Int32} {fs3 : List Value} {a3 : Nat} {vs5 : List Value} {x5 : Int32} {v6 : Int32} {g6 : ab_H} (hc3 : (h)[r0]? = some (10, fs3)) (hv3 : fs3[2]? = some (.ref a3)) (hc5 : (h)[a3]? = some (100, vs5)) (ho5 : ¬ l2 < 0) (hi5 : vs5[l2.toNatClampNeg]? = some (.int x5)) (hm6 : MSE m_X10_ones d [.int x5] h (some (.int v6)) g6) (kt : ¬ v6 = 1 → SW sc m_X10_prunes (d + 1) rc rs 32 [some (.ref r0), none, some (.int l2), none] [.int l1] g6 P) (kf : v6 = 1 → SW sc m_X10_prunes (d + 1) rc rs 26 [some (.ref r0), none, some (.int l2), none] [.int l1] g6 P) : SW sc m_X10_prunes (d + 1) rc rs 12 [some (.ref r0), some (.int l1), some (.int l2), none] [] h P := by
  refine sw_iload_n dX10_prunes_12 rfl ?_
  refine sw_aload_n dX10_prunes_13 rfl ?_
  refine sw_getf dX10_prunes_14 lf_X10_23 hc3 hv3 ?_
  refine sw_iload_n dX10_prunes_17 rfl ?_
  refine sw_iald dX10_prunes_18 hc5 ho5 hi5 ?_
  refine sw_cS dX10_prunes_19 ls_X10_111 hm6 rfl rfl (Nat.le_of_ble_eq_true rfl) (fun _ _ => rfl) rfl ?_
  show SW sc m_X10_prunes _ _ _ 22 [some (.ref r0), some (.int l1), some (.int l2), none] [.int v6, .int l1] g6 P
  refine sw_iconst (v := 1) dX10_prunes_22 (by decide) ?_
  exact sw_icmp_ne dX10_prunes_23 (by decide) (fun q => (sw_fg [false, true, false, false] rfl (kt q))) (fun q => (sw_fg [false, true, false, false] rfl (kf q)))
theorem b_X10_prunes_26 {r0 : Nat} {l2 : Int32} {s0 : Int32} (k : SW sc m_X10_prunes d rc rs 33 [some (.ref r0), none, some (.int l2), none] [.int (1 <<< (l2 &&& 31)), .int s0] h P) : SW sc m_X10_prunes d rc rs 26 [some (.ref r0), none, some (.int l2), none] [.int s0] h P := by
  refine sw_iconst (v := 1) dX10_prunes_26 (by decide) ?_
  refine sw_iload_n dX10_prunes_27 rfl ?_
  refine sw_ishl dX10_prunes_28 ?_
  exact sw_goto dX10_prunes_29 (by decide) (k)
theorem b_X10_prunes_32 {r0 : Nat} {l2 : Int32} {s0 : Int32} (k : SW sc m_X10_prunes d rc rs 33 [some (.ref r0), none, some (.int l2), none] [.int 0, .int s0] h P) : SW sc m_X10_prunes d rc rs 32 [some (.ref r0), none, some (.int l2), none] [.int s0] h P := by
  refine sw_iconst (v := 0) dX10_prunes_32 (by decide) ?_
  exact (k)
theorem b_X10_prunes_33 {r0 : Nat} {l2 : Int32} {s0 : Int32} {s1 : Int32} (k : SW sc m_X10_prunes d rc rs 4 [some (.ref r0), some (.int (s0 ||| s1)), some (.int (l2 + 1)), none] [] h P) : SW sc m_X10_prunes d rc rs 33 [some (.ref r0), none, some (.int l2), none] [.int s1, .int s0] h P := by
  refine sw_ior dX10_prunes_33 ?_
  refine sw_istore_n dX10_prunes_34 (by decide) rfl ?_
  show SW sc m_X10_prunes _ _ _ 35 [some (.ref r0), some (.int (s0 ||| s1)), some (.int l2), none] [] h P
  refine sw_iinc (v := l2 + 1) dX10_prunes_35 rfl rfl (by decide) rfl ?_
  show SW sc m_X10_prunes _ _ _ 38 [some (.ref r0), some (.int (s0 ||| s1)), some (.int (l2 + 1)), none] [] h P
  exact sw_goto dX10_prunes_38 (by decide) (k)
theorem b_X10_prunes_41 {r0 : Nat} {l1 : Int32} (k : SW sc m_X10_prunes d rc rs 45 [some (.ref r0), some (.int l1), some (.int 0), some (.int 0)] [] h P) : SW sc m_X10_prunes d rc rs 41 [some (.ref r0), some (.int l1), none, none] [] h P := by
  refine sw_iconst (v := 0) dX10_prunes_41 (by decide) ?_
  refine sw_istore_n dX10_prunes_42 (by decide) rfl ?_
  show SW sc m_X10_prunes _ _ _ 43 [some (.ref r0), some (.int l1), some (.int 0), none] [] h P
  refine sw_iconst (v := 0) dX10_prunes_43 (by decide) ?_
  refine sw_istore_n dX10_prunes_44 (by decide) rfl ?_
  show SW sc m_X10_prunes _ _ _ 45 [some (.ref r0), some (.int l1), some (.int 0), some (.int 0)] [] h P
  exact (k)
theorem b_X10_prunes_45 {r0 : Nat} {l1 : Int32} {l2 : Int32} {l3 : Int32} {fs3 : List Value} {x3 : Int32} (hc3 : (h)[r0]? = some (10, fs3)) (hv3 : fs3[6]? = some (.int x3)) (kt : x3 ≤ l3 → SW sc m_X10_prunes d rc rs 99 [none, none, some (.int l2), none] [] h P) (kf : ¬ (x3 ≤ l3) → SW sc m_X10_prunes d rc rs 53 [some (.ref r0), some (.int l1), some (.int l2), some (.int l3)] [] h P) : SW sc m_X10_prunes d rc rs 45 [some (.ref r0), some (.int l1), some (.int l2), some (.int l3)] [] h P := by
  refine sw_iload_n dX10_prunes_45 rfl ?_
  refine sw_aload_n dX10_prunes_46 rfl ?_
  refine sw_getf dX10_prunes_47 lf_X10_35 hc3 hv3 ?_
  exact sw_icmp_ge dX10_prunes_50 (by decide) (fun q => (sw_fg [true, true, false, true] rfl (kt q))) (fun q => (kf q))
theorem b_X10_prunes_53 {r0 : Nat} {l1 : Int32} {l2 : Int32} {l3 : Int32} {v3 : Int32} {g3 : ab_H} (hm3 : MSE m_X10_has d [.int l1, .int l3] h (some (.int v3)) g3) (kt : v3 = 0 → SW sc m_X10_prunes (d + 1) rc rs 93 [some (.ref r0), some (.int l1), some (.int l2), some (.int l3)] [] g3 P) (kf : ¬ (v3 = 0) → SW sc m_X10_prunes (d + 1) rc rs 61 [some (.ref r0), some (.int l1), some (.int l2), some (.int l3)] [] g3 P) : SW sc m_X10_prunes (d + 1) rc rs 53 [some (.ref r0), some (.int l1), some (.int l2), some (.int l3)] [] h P := by
  refine sw_iload_n dX10_prunes_53 rfl ?_
  refine sw_iload_n dX10_prunes_54 rfl ?_
  refine sw_cS dX10_prunes_55 ls_X10_70 hm3 rfl rfl (Nat.le_of_ble_eq_true rfl) (fun _ _ => rfl) rfl ?_
  show SW sc m_X10_prunes _ _ _ 58 [some (.ref r0), some (.int l1), some (.int l2), some (.int l3)] [.int v3] g3 P
  exact sw_if_eq dX10_prunes_58 (by decide) (fun q => (kt q)) (fun q => (kf q))
theorem b_X10_prunes_61 {r0 : Nat} {l1 : Int32} {l2 : Int32} {l3 : Int32} {fs2 : List Value} {a2 : Nat} {vs4 : List Value} {x4 : Int32} (hc2 : (h)[r0]? = some (10, fs2)) (hv2 : fs2[2]? = some (.ref a2)) (hc4 : (h)[a2]? = some (100, vs4)) (ho4 : ¬ l3 < 0) (hi4 : vs4[l3.toNatClampNeg]? = some (.int x4)) (kt : ¬ x4 = 0 → SW sc m_X10_prunes d rc rs 73 [some (.ref r0), some (.int l1), some (.int l2), some (.int l3)] [] h P) (kf : x4 = 0 → SW sc m_X10_prunes d rc rs 70 [some (.ref r0), some (.int l1), some (.int l2), some (.int l3)] [] h P) : SW sc m_X10_prunes d rc rs 61 [some (.ref r0), some (.int l1), some (.int l2), some (.int l3)] [] h P := by
  refine sw_aload_n dX10_prunes_61 rfl ?_
  refine sw_getf dX10_prunes_62 lf_X10_23 hc2 hv2 ?_
  refine sw_iload_n dX10_prunes_65 rfl ?_
  refine sw_iald dX10_prunes_66 hc4 ho4 hi4 ?_
  exact sw_if_ne dX10_prunes_67 (by decide) (fun q => (kt q)) (fun q => (kf q))
theorem b_X10_prunes_70 {r0 : Nat} {l1 : Int32} {l2 : Int32} {l3 : Int32} (k : SW sc m_X10_prunes d rc rs 93 [some (.ref r0), some (.int l1), some (.int l2), some (.int l3)] [] h P) : SW sc m_X10_prunes d rc rs 70 [some (.ref r0), some (.int l1), some (.int l2), some (.int l3)] [] h P := by
  exact sw_goto dX10_prunes_70 (by decide) (k)
theorem b_X10_prunes_73 {r0 : Nat} {l1 : Int32} {l2 : Int32} {l3 : Int32} {fs3 : List Value} {a3 : Nat} {fs6 : List Value} {a6 : Nat} {vs8 : List Value} {x8 : Int32} {v9 : Int32} {g9 : ab_H} {g10 : ab_H} (hc3 : (h)[r0]? = some (10, fs3)) (hv3 : fs3[2]? = some (.ref a3)) (hc6 : (h)[r0]? = some (10, fs6)) (hv6 : fs6[2]? = some (.ref a6)) (hc8 : (h)[a6]? = some (100, vs8)) (ho8 : ¬ l3 < 0) (hi8 : vs8[l3.toNatClampNeg]? = some (.int x8)) (hm9 : MSE m_X10_lowest d [.int x8] h (some (.int v9)) g9) (hm10 : MSE m_X10_parts d [.ref a3, .int l3, .int v9] g9 none g10) (k : SW sc m_X10_prunes (d + 1) rc rs 93 [some (.ref r0), some (.int l1), some (.int (l2 + 1)), some (.int l3)] [] g10 P) : SW sc m_X10_prunes (d + 1) rc rs 73 [some (.ref r0), some (.int l1), some (.int l2), some (.int l3)] [] h P := by
  refine sw_iinc (v := l2 + 1) dX10_prunes_73 rfl rfl (by decide) rfl ?_
  show SW sc m_X10_prunes _ _ _ 76 [some (.ref r0), some (.int l1), some (.int (l2 + 1)), some (.int l3)] [] h P
  refine sw_aload_n dX10_prunes_76 rfl ?_
  refine sw_getf dX10_prunes_77 lf_X10_23 hc3 hv3 ?_
  refine sw_iload_n dX10_prunes_80 rfl ?_
  refine sw_aload_n dX10_prunes_81 rfl ?_
  refine sw_getf dX10_prunes_82 lf_X10_23 hc6 hv6 ?_
  refine sw_iload_n dX10_prunes_85 rfl ?_
  refine sw_iald dX10_prunes_86 hc8 ho8 hi8 ?_
  refine sw_cS dX10_prunes_87 ls_X10_87 hm9 rfl rfl (Nat.le_of_ble_eq_true rfl) (fun _ _ => rfl) rfl ?_
  show SW sc m_X10_prunes _ _ _ 90 [some (.ref r0), some (.int l1), some (.int (l2 + 1)), some (.int l3)] [.int v9, .int l3, .ref a3] g9 P
  refine sw_cS dX10_prunes_90 ls_X10_274 hm10 rfl rfl (Nat.le_of_ble_eq_true rfl) (fun _ _ => rfl) rfl ?_
  show SW sc m_X10_prunes _ _ _ 93 [some (.ref r0), some (.int l1), some (.int (l2 + 1)), some (.int l3)] [] g10 P
  exact (k)
theorem b_X10_prunes_93 {r0 : Nat} {l1 : Int32} {l2 : Int32} {l3 : Int32} (k : SW sc m_X10_prunes d rc rs 45 [some (.ref r0), some (.int l1), some (.int l2), some (.int (l3 + 1))] [] h P) : SW sc m_X10_prunes d rc rs 93 [some (.ref r0), some (.int l1), some (.int l2), some (.int l3)] [] h P := by
  refine sw_iinc (v := l3 + 1) dX10_prunes_93 rfl rfl (by decide) rfl ?_
  show SW sc m_X10_prunes _ _ _ 96 [some (.ref r0), some (.int l1), some (.int l2), some (.int (l3 + 1))] [] h P
  exact sw_goto dX10_prunes_96 (by decide) (k)
theorem b_X10_prunes_99 {l2 : Int32} (hP : P (.inl (some (.int l2))) h) : SW sc m_X10_prunes d rc rs 99 [none, none, some (.int l2), none] [] h P := by
  refine sw_iload_n dX10_prunes_99 rfl ?_
  exact sw_ret (v := (some (.int l2))) dX10_prunes_100 rt_i hP
theorem b_X10_layOther_0 {r0 : Nat} (k : SW sc m_X10_layOther d rc rs 2 [some (.ref r0), some (.int 0)] [] h P) : SW sc m_X10_layOther d rc rs 0 [some (.ref r0), none] [] h P := by
  refine sw_iconst (v := 0) dX10_layOther_0 (by decide) ?_
  refine sw_istore_n dX10_layOther_1 (by decide) rfl ?_
  show SW sc m_X10_layOther _ _ _ 2 [some (.ref r0), some (.int 0)] [] h P
  exact (k)
theorem b_X10_layOther_2 {r0 : Nat} {l1 : Int32} (kt : 20 ≤ l1 → SW sc m_X10_layOther d rc rs 26 [none, none] [] h P) (kf : ¬ (20 ≤ l1) → SW sc m_X10_layOther d rc rs 8 [some (.ref r0), some (.int l1)] [] h P) : SW sc m_X10_layOther d rc rs 2 [some (.ref r0), some (.int l1)] [] h P := by
  refine sw_iload_n dX10_layOther_2 rfl ?_
  refine sw_bipush (v := 20) dX10_layOther_3 (by decide) ?_
  exact sw_icmp_ge dX10_layOther_5 (by decide) (fun q => (sw_fg [true, true] rfl (kt q))) (fun q => (kf q))
theorem b_X10_layOther_8 {r0 : Nat} {l1 : Int32} {fs2 : List Value} {a2 : Nat} {fs5 : List Value} {a5 : Nat} {vs7 : List Value} {x7 : Int32} {vs8 : List Value} (hc2 : (h)[r0]? = some (10, fs2)) (hv2 : fs2[2]? = some (.ref a2)) (hc5 : (h)[r0]? = some (10, fs5)) (hv5 : fs5[1]? = some (.ref a5)) (hc7 : (h)[a5]? = some (100, vs7)) (ho7 : ¬ l1 < 0) (hi7 : vs7[l1.toNatClampNeg]? = some (.int x7)) (hc8 : (h)[a2]? = some (100, vs8)) (ho8 : ¬ l1 < 0) (hl8 : l1.toNatClampNeg < vs8.length) (k : SW sc m_X10_layOther d rc rs 2 [some (.ref r0), some (.int (l1 + 1))] [] ((h).set a2 (100, vs8.set l1.toNatClampNeg (.int x7))) P) : SW sc m_X10_layOther d rc rs 8 [some (.ref r0), some (.int l1)] [] h P := by
  refine sw_aload_n dX10_layOther_8 rfl ?_
  refine sw_getf dX10_layOther_9 lf_X10_23 hc2 hv2 ?_
  refine sw_iload_n dX10_layOther_12 rfl ?_
  refine sw_aload_n dX10_layOther_13 rfl ?_
  refine sw_getf dX10_layOther_14 lf_X10_19 hc5 hv5 ?_
  refine sw_iload_n dX10_layOther_17 rfl ?_
  refine sw_iald dX10_layOther_18 hc7 ho7 hi7 ?_
  refine sw_iast dX10_layOther_19 hc8 ho8 hl8 ?_
  refine sw_iinc (v := l1 + 1) dX10_layOther_20 rfl rfl (by decide) rfl ?_
  show SW sc m_X10_layOther _ _ _ 23 [some (.ref r0), some (.int (l1 + 1))] [] ((h).set a2 (100, vs8.set l1.toNatClampNeg (.int x7))) P
  exact sw_goto dX10_layOther_23 (by decide) (k)
theorem b_X10_layOther_26  (hP : P (.inl none) h) : SW sc m_X10_layOther d rc rs 26 [none, none] [] h P := by
  exact sw_ret (v := none) dX10_layOther_26 rt_v hP
theorem b_X10_round_0 {r0 : Nat} {l1 : Int32} {g2 : ab_H} {fs2 : List Value} (hr2 : (h)[r0]? = some (10, fs2)) (hm2 : MSE m_X10_layOther d [.ref r0] h none g2) (k : SW sc m_X10_round (d + 1) rc rs 8 [some (.ref r0), some (.int l1), some (.int 0), some (.int 0)] [] g2 P) : SW sc m_X10_round (d + 1) rc rs 0 [some (.ref r0), some (.int l1), none, none] [] h P := by
  refine sw_aload_n dX10_round_0 rfl ?_
  refine sw_cV dX10_round_1 lv_X10_277 hm2 hr2 rfl (by decide) rfl rfl rfl (Nat.le_of_ble_eq_true rfl) (fun _ _ => rfl) rfl ?_
  show SW sc m_X10_round _ _ _ 4 [some (.ref r0), some (.int l1), none, none] [] g2 P
  refine sw_iconst (v := 0) dX10_round_4 (by decide) ?_
  refine sw_istore_n dX10_round_5 (by decide) rfl ?_
  show SW sc m_X10_round _ _ _ 6 [some (.ref r0), some (.int l1), some (.int 0), none] [] g2 P
  refine sw_iconst (v := 0) dX10_round_6 (by decide) ?_
  refine sw_istore_n dX10_round_7 (by decide) rfl ?_
  show SW sc m_X10_round _ _ _ 8 [some (.ref r0), some (.int l1), some (.int 0), some (.int 0)] [] g2 P
  exact (k)
theorem b_X10_round_8 {r0 : Nat} {l1 : Int32} {l2 : Int32} {l3 : Int32} {fs2 : List Value} {a2 : Nat} {vs4 : List Value} {x4 : Int32} (hc2 : (h)[r0]? = some (10, fs2)) (hv2 : fs2[2]? = some (.ref a2)) (hc4 : (h)[a2]? = some (100, vs4)) (ho4 : ¬ l1 < 0) (hi4 : vs4[l1.toNatClampNeg]? = some (.int x4)) (kt : x4 = 0 → SW sc m_X10_round d rc rs 30 [none, none, some (.int l2), none] [] h P) (kf : ¬ (x4 = 0) → SW sc m_X10_round d rc rs 17 [some (.ref r0), some (.int l1), some (.int l2), some (.int l3)] [] h P) : SW sc m_X10_round d rc rs 8 [some (.ref r0), some (.int l1), some (.int l2), some (.int l3)] [] h P := by
  refine sw_aload_n dX10_round_8 rfl ?_
  refine sw_getf dX10_round_9 lf_X10_23 hc2 hv2 ?_
  refine sw_iload_n dX10_round_12 rfl ?_
  refine sw_iald dX10_round_13 hc4 ho4 hi4 ?_
  exact sw_if_eq dX10_round_14 (by decide) (fun q => (sw_fg [true, true, false, true] rfl (kt q))) (fun q => (kf q))
theorem b_X10_round_17 {r0 : Nat} {l1 : Int32} {l2 : Int32} {l3 : Int32} {v3 : Int32} {g3 : ab_H} {fs3 : List Value} (hr3 : (h)[r0]? = some (10, fs3)) (hm3 : MSE m_X10_prunes d [.ref r0] h (some (.int v3)) g3) (k : SW sc m_X10_round (d + 1) rc rs 8 [some (.ref r0), some (.int l1), some (.int (l2 + 1)), some (.int (l3 + v3))] [] g3 P) : SW sc m_X10_round (d + 1) rc rs 17 [some (.ref r0), some (.int l1), some (.int l2), some (.int l3)] [] h P := by
  refine sw_iload_n dX10_round_17 rfl ?_
  refine sw_aload_n dX10_round_18 rfl ?_
  refine sw_cV dX10_round_19 lv_X10_280 hm3 hr3 rfl (by decide) rfl rfl rfl (Nat.le_of_ble_eq_true rfl) (fun _ _ => rfl) rfl ?_
  show SW sc m_X10_round _ _ _ 22 [some (.ref r0), some (.int l1), some (.int l2), some (.int l3)] [.int v3, .int l3] g3 P
  refine sw_iadd dX10_round_22 ?_
  refine sw_istore_n dX10_round_23 (by decide) rfl ?_
  show SW sc m_X10_round _ _ _ 24 [some (.ref r0), some (.int l1), some (.int l2), some (.int (l3 + v3))] [] g3 P
  refine sw_iinc (v := l2 + 1) dX10_round_24 rfl rfl (by decide) rfl ?_
  show SW sc m_X10_round _ _ _ 27 [some (.ref r0), some (.int l1), some (.int (l2 + 1)), some (.int (l3 + v3))] [] g3 P
  exact sw_goto dX10_round_27 (by decide) (k)
theorem b_X10_round_30 {l2 : Int32} (hP : P (.inl (some (.int l2))) h) : SW sc m_X10_round d rc rs 30 [none, none, some (.int l2), none] [] h P := by
  refine sw_iload_n dX10_round_30 rfl ?_
  exact sw_ret (v := (some (.int l2))) dX10_round_31 rt_i hP
theorem b_X10_vertex_0 {r0 : Nat} {l1 : Int32} {l2 : Int32} {v3 : Int32} {g3 : ab_H} {fs3 : List Value} (hr3 : (h)[r0]? = some (10, fs3)) (hm3 : MSE m_X10_isVertex d [.ref r0, .int l1] h (some (.int v3)) g3) (kt : ¬ v3 = 0 → SW sc m_X10_vertex (d + 1) rc rs 15 [some (.ref r0), some (.int l1), some (.int l2), some (.int v3)] [.ref r0] g3 P) (kf : v3 = 0 → SW sc m_X10_vertex (d + 1) rc rs 11 [some (.ref r0), some (.int l1), some (.int l2), some (.int v3)] [.ref r0] g3 P) : SW sc m_X10_vertex (d + 1) rc rs 0 [some (.ref r0), some (.int l1), some (.int l2), none] [] h P := by
  refine sw_aload_n dX10_vertex_0 rfl ?_
  refine sw_iload_n dX10_vertex_1 rfl ?_
  refine sw_cV dX10_vertex_2 lv_X10_283 hm3 hr3 rfl (by decide) rfl rfl rfl (Nat.le_of_ble_eq_true rfl) (fun _ _ => rfl) rfl ?_
  show SW sc m_X10_vertex _ _ _ 5 [some (.ref r0), some (.int l1), some (.int l2), none] [.int v3] g3 P
  refine sw_istore_n dX10_vertex_5 (by decide) rfl ?_
  show SW sc m_X10_vertex _ _ _ 6 [some (.ref r0), some (.int l1), some (.int l2), some (.int v3)] [] g3 P
  refine sw_aload_n dX10_vertex_6 rfl ?_
  refine sw_iload_n dX10_vertex_7 rfl ?_
  exact sw_if_ne dX10_vertex_8 (by decide) (fun q => (kt q)) (fun q => (kf q))
theorem b_X10_vertex_11 {r0 : Nat} {l1 : Int32} {l2 : Int32} {l3 : Int32} {q0 : Nat} (k : SW sc m_X10_vertex d rc rs 16 [some (.ref r0), some (.int l1), some (.int l2), some (.int l3)] [.int 1, .ref q0] h P) : SW sc m_X10_vertex d rc rs 11 [some (.ref r0), some (.int l1), some (.int l2), some (.int l3)] [.ref q0] h P := by
  refine sw_iconst (v := 1) dX10_vertex_11 (by decide) ?_
  exact sw_goto dX10_vertex_12 (by decide) (k)
theorem b_X10_vertex_15 {r0 : Nat} {l1 : Int32} {l2 : Int32} {l3 : Int32} {q0 : Nat} (k : SW sc m_X10_vertex d rc rs 16 [some (.ref r0), some (.int l1), some (.int l2), some (.int l3)] [.int 0, .ref q0] h P) : SW sc m_X10_vertex d rc rs 15 [some (.ref r0), some (.int l1), some (.int l2), some (.int l3)] [.ref q0] h P := by
  refine sw_iconst (v := 0) dX10_vertex_15 (by decide) ?_
  exact (k)
theorem b_X10_vertex_16 {r0 : Nat} {l1 : Int32} {l2 : Int32} {l3 : Int32} {q0 : Nat} {s1 : Int32} (kt : l3 = 0 → SW sc m_X10_vertex d rc rs 34 [some (.ref r0), some (.int l1), some (.int l2), none] [.int s1, .ref q0] h P) (kf : ¬ (l3 = 0) → SW sc m_X10_vertex d rc rs 20 [some (.ref r0), some (.int l1), some (.int l2), none] [.int s1, .ref q0] h P) : SW sc m_X10_vertex d rc rs 16 [some (.ref r0), some (.int l1), some (.int l2), some (.int l3)] [.int s1, .ref q0] h P := by
  refine sw_iload_n dX10_vertex_16 rfl ?_
  exact sw_if_eq dX10_vertex_17 (by decide) (fun q => (sw_fg [false, false, false, true] rfl (kt q))) (fun q => (sw_fg [false, false, false, true] rfl (kf q)))
theorem b_X10_vertex_20 {r0 : Nat} {l1 : Int32} {l2 : Int32} {q0 : Nat} {s1 : Int32} {v4 : Int32} {g4 : ab_H} (hm4 : MSE m_X10_isIn d [.int l2, .int 0, .int 7] h (some (.int v4)) g4) (kt : ¬ v4 = 0 → SW sc m_X10_vertex (d + 1) rc rs 34 [some (.ref r0), some (.int l1), some (.int l2), none] [.int s1, .ref q0] g4 P) (kf : v4 = 0 → SW sc m_X10_vertex (d + 1) rc rs 30 [some (.ref r0), some (.int l1), some (.int l2), none] [.int s1, .ref q0] g4 P) : SW sc m_X10_vertex (d + 1) rc rs 20 [some (.ref r0), some (.int l1), some (.int l2), none] [.int s1, .ref q0] h P := by
  refine sw_iload_n dX10_vertex_20 rfl ?_
  refine sw_iconst (v := 0) dX10_vertex_21 (by decide) ?_
  refine sw_bipush (v := 7) dX10_vertex_22 (by decide) ?_
  refine sw_cS dX10_vertex_24 ls_X10_153 hm4 rfl rfl (Nat.le_of_ble_eq_true rfl) (fun _ _ => rfl) rfl ?_
  show SW sc m_X10_vertex _ _ _ 27 [some (.ref r0), some (.int l1), some (.int l2), none] [.int v4, .int s1, .ref q0] g4 P
  exact sw_if_ne dX10_vertex_27 (by decide) (fun q => (kt q)) (fun q => (kf q))
theorem b_X10_vertex_30 {r0 : Nat} {l1 : Int32} {l2 : Int32} {q0 : Nat} {s1 : Int32} (k : SW sc m_X10_vertex d rc rs 35 [some (.ref r0), some (.int l1), some (.int l2), none] [.int 1, .int s1, .ref q0] h P) : SW sc m_X10_vertex d rc rs 30 [some (.ref r0), some (.int l1), some (.int l2), none] [.int s1, .ref q0] h P := by
  refine sw_iconst (v := 1) dX10_vertex_30 (by decide) ?_
  exact sw_goto dX10_vertex_31 (by decide) (k)
theorem b_X10_vertex_34 {r0 : Nat} {l1 : Int32} {l2 : Int32} {q0 : Nat} {s1 : Int32} (k : SW sc m_X10_vertex d rc rs 35 [some (.ref r0), some (.int l1), some (.int l2), none] [.int 0, .int s1, .ref q0] h P) : SW sc m_X10_vertex d rc rs 34 [some (.ref r0), some (.int l1), some (.int l2), none] [.int s1, .ref q0] h P := by
  refine sw_iconst (v := 0) dX10_vertex_34 (by decide) ?_
  exact (k)
theorem b_X10_vertex_35 {r0 : Nat} {l1 : Int32} {l2 : Int32} {q0 : Nat} {s1 : Int32} {s2 : Int32} {v1 : Int32} {g1 : ab_H} {fs1 : List Value} (hr1 : (h)[q0]? = some (10, fs1)) (hm1 : MSE m_X10_fails d [.ref q0, .int s1, .int s2] h (some (.int v1)) g1) (kt : v1 = 0 → SW sc m_X10_vertex (d + 1) rc rs 43 [some (.ref r0), some (.int l1), some (.int l2), none] [] g1 P) (kf : ¬ (v1 = 0) → SW sc m_X10_vertex (d + 1) rc rs 41 [none, none, none, none] [] g1 P) : SW sc m_X10_vertex (d + 1) rc rs 35 [some (.ref r0), some (.int l1), some (.int l2), none] [.int s2, .int s1, .ref q0] h P := by
  refine sw_cV dX10_vertex_35 lv_X10_286 hm1 hr1 rfl (by decide) rfl rfl rfl (Nat.le_of_ble_eq_true rfl) (fun _ _ => rfl) rfl ?_
  show SW sc m_X10_vertex _ _ _ 38 [some (.ref r0), some (.int l1), some (.int l2), none] [.int v1] g1 P
  exact sw_if_eq dX10_vertex_38 (by decide) (fun q => (kt q)) (fun q => (sw_fg [true, true, true, false] rfl (kf q)))
theorem b_X10_vertex_41  (hP : P (.inl (some (.int 0))) h) : SW sc m_X10_vertex d rc rs 41 [none, none, none, none] [] h P := by
  refine sw_iconst (v := 0) dX10_vertex_41 (by decide) ?_
  exact sw_ret (v := (some (.int 0))) dX10_vertex_42 rt_i hP
theorem b_X10_vertex_43 {r0 : Nat} {l1 : Int32} {l2 : Int32} (k0 : l2 = 0 → SW sc m_X10_vertex d rc rs 88 [some (.ref r0), some (.int l1), none, none] [] h P) (k1 : l2 = 1 → SW sc m_X10_vertex d rc rs 98 [some (.ref r0), some (.int l1), none, none] [] h P) (k2 : l2 = 2 → SW sc m_X10_vertex d rc rs 108 [some (.ref r0), some (.int l1), none, none] [] h P) (k3 : l2 = 3 → SW sc m_X10_vertex d rc rs 114 [some (.ref r0), some (.int l1), none, none] [] h P) (k4 : l2 = 4 → SW sc m_X10_vertex d rc rs 123 [some (.ref r0), some (.int l1), none, none] [] h P) (k5 : l2 = 5 → SW sc m_X10_vertex d rc rs 129 [some (.ref r0), some (.int l1), none, none] [] h P) (k6 : l2 = 6 → SW sc m_X10_vertex d rc rs 135 [some (.ref r0), some (.int l1), none, none] [] h P) (kd : (∀ i : Nat, i < 7 → ¬ l2 = Int32.ofNat i) → SW sc m_X10_vertex d rc rs 142 [some (.ref r0), some (.int l1), none, none] [] h P) : SW sc m_X10_vertex d rc rs 43 [some (.ref r0), some (.int l1), some (.int l2), none] [] h P := by
  refine sw_iload_n dX10_vertex_43 rfl ?_
  by_cases ho : (l2).toInt < 0 ∨ 6 < (l2).toInt
  · exact sw_tableOut dX10_vertex_44 ho (by decide) (sw_fg [false, false, true, false] rfl (kd (ab_swOut (n := 7) (by decide) ho)))
  · obtain ⟨i, hi, hx⟩ := ab_swIn (n := 7) (by decide) ho
    by_cases h0 : i = 0
    · subst h0
      exact sw_tableIn (off := 44) dX10_vertex_44 (by rw [hx]; decide) (by rw [hx]; decide) (by rw [hx]; decide) (by decide) (sw_fg [false, false, true, false] rfl (k0 (by rw [hx]; decide)))
    by_cases h1 : i = 1
    · subst h1
      exact sw_tableIn (off := 54) dX10_vertex_44 (by rw [hx]; decide) (by rw [hx]; decide) (by rw [hx]; decide) (by decide) (sw_fg [false, false, true, false] rfl (k1 (by rw [hx]; decide)))
    by_cases h2 : i = 2
    · subst h2
      exact sw_tableIn (off := 64) dX10_vertex_44 (by rw [hx]; decide) (by rw [hx]; decide) (by rw [hx]; decide) (by decide) (sw_fg [false, false, true, false] rfl (k2 (by rw [hx]; decide)))
    by_cases h3 : i = 3
    · subst h3
      exact sw_tableIn (off := 70) dX10_vertex_44 (by rw [hx]; decide) (by rw [hx]; decide) (by rw [hx]; decide) (by decide) (sw_fg [false, false, true, false] rfl (k3 (by rw [hx]; decide)))
    by_cases h4 : i = 4
    · subst h4
      exact sw_tableIn (off := 79) dX10_vertex_44 (by rw [hx]; decide) (by rw [hx]; decide) (by rw [hx]; decide) (by decide) (sw_fg [false, false, true, false] rfl (k4 (by rw [hx]; decide)))
    by_cases h5 : i = 5
    · subst h5
      exact sw_tableIn (off := 85) dX10_vertex_44 (by rw [hx]; decide) (by rw [hx]; decide) (by rw [hx]; decide) (by decide) (sw_fg [false, false, true, false] rfl (k5 (by rw [hx]; decide)))
    by_cases h6 : i = 6
    · subst h6
      exact sw_tableIn (off := 91) dX10_vertex_44 (by rw [hx]; decide) (by rw [hx]; decide) (by rw [hx]; decide) (by decide) (sw_fg [false, false, true, false] rfl (k6 (by rw [hx]; decide)))
    exact absurd hi (by omega)
theorem b_X10_vertex_88 {r0 : Nat} {l1 : Int32} {fs2 : List Value} {a2 : Nat} {vs4 : List Value} {x4 : Int32} {v5 : Int32} {g5 : ab_H} (hc2 : (h)[r0]? = some (10, fs2)) (hv2 : fs2[1]? = some (.ref a2)) (hc4 : (h)[a2]? = some (100, vs4)) (ho4 : ¬ l1 < 0) (hi4 : vs4[l1.toNatClampNeg]? = some (.int x4)) (hm5 : MSE m_X10_ones d [.int x4] h (some (.int v5)) g5) (hP : P (.inl (some (.int v5))) g5) : SW sc m_X10_vertex (d + 1) rc rs 88 [some (.ref r0), some (.int l1), none, none] [] h P := by
  refine sw_aload_n dX10_vertex_88 rfl ?_
  refine sw_getf dX10_vertex_89 lf_X10_19 hc2 hv2 ?_
  refine sw_iload_n dX10_vertex_92 rfl ?_
  refine sw_iald dX10_vertex_93 hc4 ho4 hi4 ?_
  refine sw_cS dX10_vertex_94 ls_X10_111 hm5 rfl rfl (Nat.le_of_ble_eq_true rfl) (fun _ _ => rfl) rfl ?_
  show SW sc m_X10_vertex _ _ _ 97 [some (.ref r0), some (.int l1), none, none] [.int v5] g5 P
  exact sw_ret (v := (some (.int v5))) dX10_vertex_97 rt_i hP
theorem b_X10_vertex_98 {r0 : Nat} {l1 : Int32} {fs2 : List Value} {a2 : Nat} {vs6 : List Value} {x6 : Int32} (hc2 : (h)[r0]? = some (10, fs2)) (hv2 : fs2[1]? = some (.ref a2)) (hc6 : (h)[a2]? = some (100, vs6)) (ho6 : ¬ (10 + l1) < 0) (hi6 : vs6[(10 + l1).toNatClampNeg]? = some (.int x6)) (hP : P (.inl (some (.int x6))) h) : SW sc m_X10_vertex d rc rs 98 [some (.ref r0), some (.int l1), none, none] [] h P := by
  refine sw_aload_n dX10_vertex_98 rfl ?_
  refine sw_getf dX10_vertex_99 lf_X10_19 hc2 hv2 ?_
  refine sw_bipush (v := 10) dX10_vertex_102 (by decide) ?_
  refine sw_iload_n dX10_vertex_104 rfl ?_
  refine sw_iadd dX10_vertex_105 ?_
  refine sw_iald dX10_vertex_106 hc6 ho6 hi6 ?_
  exact sw_ret (v := (some (.int x6))) dX10_vertex_107 rt_i hP
theorem b_X10_vertex_108 {r0 : Nat} {l1 : Int32} {v3 : Int32} {g3 : ab_H} {fs3 : List Value} (hr3 : (h)[r0]? = some (10, fs3)) (hm3 : MSE m_X10_numberOf d [.ref r0, .int l1] h (some (.int v3)) g3) (hP : P (.inl (some (.int v3))) g3) : SW sc m_X10_vertex (d + 1) rc rs 108 [some (.ref r0), some (.int l1), none, none] [] h P := by
  refine sw_aload_n dX10_vertex_108 rfl ?_
  refine sw_iload_n dX10_vertex_109 rfl ?_
  refine sw_cV dX10_vertex_110 lv_X10_289 hm3 hr3 rfl (by decide) rfl rfl rfl (Nat.le_of_ble_eq_true rfl) (fun _ _ => rfl) rfl ?_
  show SW sc m_X10_vertex _ _ _ 113 [some (.ref r0), some (.int l1), none, none] [.int v3] g3 P
  exact sw_ret (v := (some (.int v3))) dX10_vertex_113 rt_i hP
theorem b_X10_vertex_114 {r0 : Nat} {l1 : Int32} {v3 : Int32} {g3 : ab_H} {fs3 : List Value} {v4 : Int32} {g4 : ab_H} (hr3 : (h)[r0]? = some (10, fs3)) (hm3 : MSE m_X10_component d [.ref r0, .int l1] h (some (.int v3)) g3) (hm4 : MSE m_X10_ones d [.int v3] g3 (some (.int v4)) g4) (hP : P (.inl (some (.int v4))) g4) : SW sc m_X10_vertex (d + 1) rc rs 114 [some (.ref r0), some (.int l1), none, none] [] h P := by
  refine sw_aload_n dX10_vertex_114 rfl ?_
  refine sw_iload_n dX10_vertex_115 rfl ?_
  refine sw_cV dX10_vertex_116 lv_X10_84 hm3 hr3 rfl (by decide) rfl rfl rfl (Nat.le_of_ble_eq_true rfl) (fun _ _ => rfl) rfl ?_
  show SW sc m_X10_vertex _ _ _ 119 [some (.ref r0), some (.int l1), none, none] [.int v3] g3 P
  refine sw_cS dX10_vertex_119 ls_X10_111 hm4 rfl rfl (Nat.le_of_ble_eq_true rfl) (fun _ _ => rfl) rfl ?_
  show SW sc m_X10_vertex _ _ _ 122 [some (.ref r0), some (.int l1), none, none] [.int v4] g4 P
  exact sw_ret (v := (some (.int v4))) dX10_vertex_122 rt_i hP
theorem b_X10_vertex_123 {r0 : Nat} {l1 : Int32} {v3 : Int32} {g3 : ab_H} {fs3 : List Value} (hr3 : (h)[r0]? = some (10, fs3)) (hm3 : MSE m_X10_eccentricity d [.ref r0, .int l1] h (some (.int v3)) g3) (hP : P (.inl (some (.int v3))) g3) : SW sc m_X10_vertex (d + 1) rc rs 123 [some (.ref r0), some (.int l1), none, none] [] h P := by
  refine sw_aload_n dX10_vertex_123 rfl ?_
  refine sw_iload_n dX10_vertex_124 rfl ?_
  refine sw_cV dX10_vertex_125 lv_X10_102 hm3 hr3 rfl (by decide) rfl rfl rfl (Nat.le_of_ble_eq_true rfl) (fun _ _ => rfl) rfl ?_
  show SW sc m_X10_vertex _ _ _ 128 [some (.ref r0), some (.int l1), none, none] [.int v3] g3 P
  exact sw_ret (v := (some (.int v3))) dX10_vertex_128 rt_i hP
theorem b_X10_vertex_129 {r0 : Nat} {l1 : Int32} {v3 : Int32} {g3 : ab_H} {fs3 : List Value} (hr3 : (h)[r0]? = some (10, fs3)) (hm3 : MSE m_X10_round d [.ref r0, .int l1] h (some (.int v3)) g3) (hP : P (.inl (some (.int v3))) g3) : SW sc m_X10_vertex (d + 1) rc rs 129 [some (.ref r0), some (.int l1), none, none] [] h P := by
  refine sw_aload_n dX10_vertex_129 rfl ?_
  refine sw_iload_n dX10_vertex_130 rfl ?_
  refine sw_cV dX10_vertex_131 lv_X10_292 hm3 hr3 rfl (by decide) rfl rfl rfl (Nat.le_of_ble_eq_true rfl) (fun _ _ => rfl) rfl ?_
  show SW sc m_X10_vertex _ _ _ 134 [some (.ref r0), some (.int l1), none, none] [.int v3] g3 P
  exact sw_ret (v := (some (.int v3))) dX10_vertex_134 rt_i hP
theorem b_X10_vertex_135 {r0 : Nat} {l1 : Int32} {fs2 : List Value} {a2 : Nat} {vs4 : List Value} {x4 : Int32} (hc2 : (h)[r0]? = some (10, fs2)) (hv2 : fs2[1]? = some (.ref a2)) (hc4 : (h)[a2]? = some (100, vs4)) (ho4 : ¬ l1 < 0) (hi4 : vs4[l1.toNatClampNeg]? = some (.int x4)) (hP : P (.inl (some (.int x4))) h) : SW sc m_X10_vertex d rc rs 135 [some (.ref r0), some (.int l1), none, none] [] h P := by
  refine sw_aload_n dX10_vertex_135 rfl ?_
  refine sw_getf dX10_vertex_136 lf_X10_19 hc2 hv2 ?_
  refine sw_iload_n dX10_vertex_139 rfl ?_
  refine sw_iald dX10_vertex_140 hc4 ho4 hi4 ?_
  exact sw_ret (v := (some (.int x4))) dX10_vertex_141 rt_i hP
theorem b_X10_vertex_142 {r0 : Nat} {l1 : Int32} {v3 : Int32} {g3 : ab_H} {fs3 : List Value} (hr3 : (h)[r0]? = some (10, fs3)) (hm3 : MSE m_X10_orbit d [.ref r0, .int l1] h (some (.int v3)) g3) (hP : P (.inl (some (.int v3))) g3) : SW sc m_X10_vertex (d + 1) rc rs 142 [some (.ref r0), some (.int l1), none, none] [] h P := by
  refine sw_aload_n dX10_vertex_142 rfl ?_
  refine sw_iload_n dX10_vertex_143 rfl ?_
  refine sw_cV dX10_vertex_144 lv_X10_130 hm3 hr3 rfl (by decide) rfl rfl rfl (Nat.le_of_ble_eq_true rfl) (fun _ _ => rfl) rfl ?_
  show SW sc m_X10_vertex _ _ _ 147 [some (.ref r0), some (.int l1), none, none] [.int v3] g3 P
  exact sw_ret (v := (some (.int v3))) dX10_vertex_147 rt_i hP
theorem b_X10_isComponent_0 {r0 : Nat} {l1 : Int32} {v4 : Int32} {g4 : ab_H} {fs4 : List Value} {v7 : Int32} {g7 : ab_H} (hr4 : (h)[r0]? = some (10, fs4)) (hm4 : MSE m_X10_componentMany d [.ref r0] h (some (.int v4)) g4) (hm7 : MSE m_X10_isIn d [.int l1, .int 0, .int (v4 - 1)] g4 (some (.int v7)) g7) (hz8 : narrow .boolean (.int v7) = .int v7) (hP : P (.inl (some (.int v7))) g7) : SW sc m_X10_isComponent (d + 1) rc rs 0 [some (.ref r0), some (.int l1)] [] h P := by
  refine sw_iload_n dX10_isComponent_0 rfl ?_
  refine sw_iconst (v := 0) dX10_isComponent_1 (by decide) ?_
  refine sw_aload_n dX10_isComponent_2 rfl ?_
  refine sw_cV dX10_isComponent_3 lv_X10_268 hm4 hr4 rfl (by decide) rfl rfl rfl (Nat.le_of_ble_eq_true rfl) (fun _ _ => rfl) rfl ?_
  show SW sc m_X10_isComponent _ _ _ 6 [some (.ref r0), some (.int l1)] [.int v4, .int 0, .int l1] g4 P
  refine sw_iconst (v := 1) dX10_isComponent_6 (by decide) ?_
  refine sw_isub dX10_isComponent_7 ?_
  refine sw_cS dX10_isComponent_8 ls_X10_153 hm7 rfl rfl (Nat.le_of_ble_eq_true rfl) (fun _ _ => rfl) rfl ?_
  show SW sc m_X10_isComponent _ _ _ 11 [some (.ref r0), some (.int l1)] [.int v7] g7 P
  exact sw_ret (v := (some (.int v7))) dX10_isComponent_11 (rt_n hz8) hP
theorem b_X10_component__0 {r0 : Nat} {l1 : Int32} {l2 : Int32} {v3 : Int32} {g3 : ab_H} {fs3 : List Value} (hr3 : (h)[r0]? = some (10, fs3)) (hm3 : MSE m_X10_isComponent d [.ref r0, .int l1] h (some (.int v3)) g3) (kt : ¬ v3 = 0 → SW sc m_X10_component_ (d + 1) rc rs 15 [some (.ref r0), some (.int l1), some (.int l2), some (.int v3), none] [.ref r0] g3 P) (kf : v3 = 0 → SW sc m_X10_component_ (d + 1) rc rs 11 [some (.ref r0), some (.int l1), some (.int l2), some (.int v3), none] [.ref r0] g3 P) : SW sc m_X10_component_ (d + 1) rc rs 0 [some (.ref r0), some (.int l1), some (.int l2), none, none] [] h P := by
  refine sw_aload_n dX10_component__0 rfl ?_
  refine sw_iload_n dX10_component__1 rfl ?_
  refine sw_cV dX10_component__2 lv_X10_295 hm3 hr3 rfl (by decide) rfl rfl rfl (Nat.le_of_ble_eq_true rfl) (fun _ _ => rfl) rfl ?_
  show SW sc m_X10_component_ _ _ _ 5 [some (.ref r0), some (.int l1), some (.int l2), none, none] [.int v3] g3 P
  refine sw_istore_n dX10_component__5 (by decide) rfl ?_
  show SW sc m_X10_component_ _ _ _ 6 [some (.ref r0), some (.int l1), some (.int l2), some (.int v3), none] [] g3 P
  refine sw_aload_n dX10_component__6 rfl ?_
  refine sw_iload_n dX10_component__7 rfl ?_
  exact sw_if_ne dX10_component__8 (by decide) (fun q => (kt q)) (fun q => (kf q))
theorem b_X10_component__11 {r0 : Nat} {l1 : Int32} {l2 : Int32} {l3 : Int32} {q0 : Nat} (k : SW sc m_X10_component_ d rc rs 16 [some (.ref r0), some (.int l1), some (.int l2), some (.int l3), none] [.int 1, .ref q0] h P) : SW sc m_X10_component_ d rc rs 11 [some (.ref r0), some (.int l1), some (.int l2), some (.int l3), none] [.ref q0] h P := by
  refine sw_iconst (v := 1) dX10_component__11 (by decide) ?_
  exact sw_goto dX10_component__12 (by decide) (k)
theorem b_X10_component__15 {r0 : Nat} {l1 : Int32} {l2 : Int32} {l3 : Int32} {q0 : Nat} (k : SW sc m_X10_component_ d rc rs 16 [some (.ref r0), some (.int l1), some (.int l2), some (.int l3), none] [.int 0, .ref q0] h P) : SW sc m_X10_component_ d rc rs 15 [some (.ref r0), some (.int l1), some (.int l2), some (.int l3), none] [.ref q0] h P := by
  refine sw_iconst (v := 0) dX10_component__15 (by decide) ?_
  exact (k)
theorem b_X10_component__16 {r0 : Nat} {l1 : Int32} {l2 : Int32} {l3 : Int32} {q0 : Nat} {s1 : Int32} (kt : l3 = 0 → SW sc m_X10_component_ d rc rs 34 [some (.ref r0), some (.int l1), some (.int l2), none, none] [.int s1, .ref q0] h P) (kf : ¬ (l3 = 0) → SW sc m_X10_component_ d rc rs 20 [some (.ref r0), some (.int l1), some (.int l2), none, none] [.int s1, .ref q0] h P) : SW sc m_X10_component_ d rc rs 16 [some (.ref r0), some (.int l1), some (.int l2), some (.int l3), none] [.int s1, .ref q0] h P := by
  refine sw_iload_n dX10_component__16 rfl ?_
  exact sw_if_eq dX10_component__17 (by decide) (fun q => (sw_fg [false, false, false, true, false] rfl (kt q))) (fun q => (sw_fg [false, false, false, true, false] rfl (kf q)))
theorem b_X10_component__20 {r0 : Nat} {l1 : Int32} {l2 : Int32} {q0 : Nat} {s1 : Int32} {v4 : Int32} {g4 : ab_H} (hm4 : MSE m_X10_isIn d [.int l2, .int 0, .int 6] h (some (.int v4)) g4) (kt : ¬ v4 = 0 → SW sc m_X10_component_ (d + 1) rc rs 34 [some (.ref r0), some (.int l1), some (.int l2), none, none] [.int s1, .ref q0] g4 P) (kf : v4 = 0 → SW sc m_X10_component_ (d + 1) rc rs 30 [some (.ref r0), some (.int l1), some (.int l2), none, none] [.int s1, .ref q0] g4 P) : SW sc m_X10_component_ (d + 1) rc rs 20 [some (.ref r0), some (.int l1), some (.int l2), none, none] [.int s1, .ref q0] h P := by
  refine sw_iload_n dX10_component__20 rfl ?_
  refine sw_iconst (v := 0) dX10_component__21 (by decide) ?_
  refine sw_bipush (v := 6) dX10_component__22 (by decide) ?_
  refine sw_cS dX10_component__24 ls_X10_153 hm4 rfl rfl (Nat.le_of_ble_eq_true rfl) (fun _ _ => rfl) rfl ?_
  show SW sc m_X10_component_ _ _ _ 27 [some (.ref r0), some (.int l1), some (.int l2), none, none] [.int v4, .int s1, .ref q0] g4 P
  exact sw_if_ne dX10_component__27 (by decide) (fun q => (kt q)) (fun q => (kf q))
theorem b_X10_component__30 {r0 : Nat} {l1 : Int32} {l2 : Int32} {q0 : Nat} {s1 : Int32} (k : SW sc m_X10_component_ d rc rs 35 [some (.ref r0), some (.int l1), some (.int l2), none, none] [.int 1, .int s1, .ref q0] h P) : SW sc m_X10_component_ d rc rs 30 [some (.ref r0), some (.int l1), some (.int l2), none, none] [.int s1, .ref q0] h P := by
  refine sw_iconst (v := 1) dX10_component__30 (by decide) ?_
  exact sw_goto dX10_component__31 (by decide) (k)
theorem b_X10_component__34 {r0 : Nat} {l1 : Int32} {l2 : Int32} {q0 : Nat} {s1 : Int32} (k : SW sc m_X10_component_ d rc rs 35 [some (.ref r0), some (.int l1), some (.int l2), none, none] [.int 0, .int s1, .ref q0] h P) : SW sc m_X10_component_ d rc rs 34 [some (.ref r0), some (.int l1), some (.int l2), none, none] [.int s1, .ref q0] h P := by
  refine sw_iconst (v := 0) dX10_component__34 (by decide) ?_
  exact (k)
theorem b_X10_component__35 {r0 : Nat} {l1 : Int32} {l2 : Int32} {q0 : Nat} {s1 : Int32} {s2 : Int32} {v1 : Int32} {g1 : ab_H} {fs1 : List Value} (hr1 : (h)[q0]? = some (10, fs1)) (hm1 : MSE m_X10_fails d [.ref q0, .int s1, .int s2] h (some (.int v1)) g1) (kt : v1 = 0 → SW sc m_X10_component_ (d + 1) rc rs 43 [some (.ref r0), some (.int l1), some (.int l2), none, none] [] g1 P) (kf : ¬ (v1 = 0) → SW sc m_X10_component_ (d + 1) rc rs 41 [none, none, none, none, none] [] g1 P) : SW sc m_X10_component_ (d + 1) rc rs 35 [some (.ref r0), some (.int l1), some (.int l2), none, none] [.int s2, .int s1, .ref q0] h P := by
  refine sw_cV dX10_component__35 lv_X10_286 hm1 hr1 rfl (by decide) rfl rfl rfl (Nat.le_of_ble_eq_true rfl) (fun _ _ => rfl) rfl ?_
  show SW sc m_X10_component_ _ _ _ 38 [some (.ref r0), some (.int l1), some (.int l2), none, none] [.int v1] g1 P
  exact sw_if_eq dX10_component__38 (by decide) (fun q => (kt q)) (fun q => (sw_fg [true, true, true, false, false] rfl (kf q)))
theorem b_X10_component__41  (hP : P (.inl (some (.int 0))) h) : SW sc m_X10_component_ d rc rs 41 [none, none, none, none, none] [] h P := by
  refine sw_iconst (v := 0) dX10_component__41 (by decide) ?_
  exact sw_ret (v := (some (.int 0))) dX10_component__42 rt_i hP
theorem b_X10_component__43 {r0 : Nat} {l1 : Int32} {l2 : Int32} {v3 : Int32} {g3 : ab_H} {fs3 : List Value} (hr3 : (h)[r0]? = some (10, fs3)) (hm3 : MSE m_X10_componentAt d [.ref r0, .int l1] h (some (.int v3)) g3) (k0 : l2 = 0 → SW sc m_X10_component_ (d + 1) rc rs 88 [none, none, none, none, some (.int v3)] [] g3 P) (k1 : l2 = 1 → SW sc m_X10_component_ (d + 1) rc rs 91 [some (.ref r0), none, none, none, some (.int v3)] [] g3 P) (k2 : l2 = 2 → SW sc m_X10_component_ (d + 1) rc rs 98 [some (.ref r0), none, none, none, some (.int v3)] [] g3 P) (k3 : l2 = 3 → SW sc m_X10_component_ (d + 1) rc rs 106 [some (.ref r0), none, none, none, some (.int v3)] [] g3 P) (k4 : l2 = 4 → SW sc m_X10_component_ (d + 1) rc rs 114 [some (.ref r0), none, none, none, some (.int v3)] [] g3 P) (k5 : l2 = 5 → SW sc m_X10_component_ (d + 1) rc rs 122 [some (.ref r0), some (.int l1), none, none, none] [] g3 P) (kd : (∀ i : Nat, i < 6 → ¬ l2 = Int32.ofNat i) → SW sc m_X10_component_ (d + 1) rc rs 128 [some (.ref r0), none, none, none, some (.int v3)] [] g3 P) : SW sc m_X10_component_ (d + 1) rc rs 43 [some (.ref r0), some (.int l1), some (.int l2), none, none] [] h P := by
  refine sw_aload_n dX10_component__43 rfl ?_
  refine sw_iload_n dX10_component__44 rfl ?_
  refine sw_cV dX10_component__45 lv_X10_133 hm3 hr3 rfl (by decide) rfl rfl rfl (Nat.le_of_ble_eq_true rfl) (fun _ _ => rfl) rfl ?_
  show SW sc m_X10_component_ _ _ _ 48 [some (.ref r0), some (.int l1), some (.int l2), none, none] [.int v3] g3 P
  refine sw_istore dX10_component__48 (by decide) rfl ?_
  show SW sc m_X10_component_ _ _ _ 50 [some (.ref r0), some (.int l1), some (.int l2), none, some (.int v3)] [] g3 P
  refine sw_iload_n dX10_component__50 rfl ?_
  by_cases ho : (l2).toInt < 0 ∨ 5 < (l2).toInt
  · exact sw_tableOut dX10_component__51 ho (by decide) (sw_fg [false, true, true, false, false] rfl (kd (ab_swOut (n := 6) (by decide) ho)))
  · obtain ⟨i, hi, hx⟩ := ab_swIn (n := 6) (by decide) ho
    by_cases h0 : i = 0
    · subst h0
      exact sw_tableIn (off := 37) dX10_component__51 (by rw [hx]; decide) (by rw [hx]; decide) (by rw [hx]; decide) (by decide) (sw_fg [true, true, true, false, false] rfl (k0 (by rw [hx]; decide)))
    by_cases h1 : i = 1
    · subst h1
      exact sw_tableIn (off := 40) dX10_component__51 (by rw [hx]; decide) (by rw [hx]; decide) (by rw [hx]; decide) (by decide) (sw_fg [false, true, true, false, false] rfl (k1 (by rw [hx]; decide)))
    by_cases h2 : i = 2
    · subst h2
      exact sw_tableIn (off := 47) dX10_component__51 (by rw [hx]; decide) (by rw [hx]; decide) (by rw [hx]; decide) (by decide) (sw_fg [false, true, true, false, false] rfl (k2 (by rw [hx]; decide)))
    by_cases h3 : i = 3
    · subst h3
      exact sw_tableIn (off := 55) dX10_component__51 (by rw [hx]; decide) (by rw [hx]; decide) (by rw [hx]; decide) (by decide) (sw_fg [false, true, true, false, false] rfl (k3 (by rw [hx]; decide)))
    by_cases h4 : i = 4
    · subst h4
      exact sw_tableIn (off := 63) dX10_component__51 (by rw [hx]; decide) (by rw [hx]; decide) (by rw [hx]; decide) (by decide) (sw_fg [false, true, true, false, false] rfl (k4 (by rw [hx]; decide)))
    by_cases h5 : i = 5
    · subst h5
      exact sw_tableIn (off := 71) dX10_component__51 (by rw [hx]; decide) (by rw [hx]; decide) (by rw [hx]; decide) (by decide) (sw_fg [false, false, true, false, true] rfl (k5 (by rw [hx]; decide)))
    exact absurd hi (by omega)
theorem b_X10_component__88 {l4 : Int32} (hP : P (.inl (some (.int l4))) h) : SW sc m_X10_component_ d rc rs 88 [none, none, none, none, some (.int l4)] [] h P := by
  refine sw_iload dX10_component__88 rfl ?_
  exact sw_ret (v := (some (.int l4))) dX10_component__90 rt_i hP
theorem b_X10_component__91 {r0 : Nat} {l4 : Int32} {v3 : Int32} {g3 : ab_H} {fs3 : List Value} (hr3 : (h)[r0]? = some (10, fs3)) (hm3 : MSE m_X10_diameter d [.ref r0, .int l4] h (some (.int v3)) g3) (hP : P (.inl (some (.int v3))) g3) : SW sc m_X10_component_ (d + 1) rc rs 91 [some (.ref r0), none, none, none, some (.int l4)] [] h P := by
  refine sw_aload_n dX10_component__91 rfl ?_
  refine sw_iload dX10_component__92 rfl ?_
  refine sw_cV dX10_component__94 lv_X10_298 hm3 hr3 rfl (by decide) rfl rfl rfl (Nat.le_of_ble_eq_true rfl) (fun _ _ => rfl) rfl ?_
  show SW sc m_X10_component_ _ _ _ 97 [some (.ref r0), none, none, none, some (.int l4)] [.int v3] g3 P
  exact sw_ret (v := (some (.int v3))) dX10_component__97 rt_i hP
theorem b_X10_component__98 {r0 : Nat} {l4 : Int32} {v4 : Int32} {g4 : ab_H} {fs4 : List Value} (hr4 : (h)[r0]? = some (10, fs4)) (hm4 : MSE m_X10_leastOf d [.ref r0, .int l4, .int 0] h (some (.int v4)) g4) (hP : P (.inl (some (.int v4))) g4) : SW sc m_X10_component_ (d + 1) rc rs 98 [some (.ref r0), none, none, none, some (.int l4)] [] h P := by
  refine sw_aload_n dX10_component__98 rfl ?_
  refine sw_iload dX10_component__99 rfl ?_
  refine sw_iconst (v := 0) dX10_component__101 (by decide) ?_
  refine sw_cV dX10_component__102 lv_X10_121 hm4 hr4 rfl (by decide) rfl rfl rfl (Nat.le_of_ble_eq_true rfl) (fun _ _ => rfl) rfl ?_
  show SW sc m_X10_component_ _ _ _ 105 [some (.ref r0), none, none, none, some (.int l4)] [.int v4] g4 P
  exact sw_ret (v := (some (.int v4))) dX10_component__105 rt_i hP
theorem b_X10_component__106 {r0 : Nat} {l4 : Int32} {v4 : Int32} {g4 : ab_H} {fs4 : List Value} (hr4 : (h)[r0]? = some (10, fs4)) (hm4 : MSE m_X10_leastOf d [.ref r0, .int l4, .int 1] h (some (.int v4)) g4) (hP : P (.inl (some (.int v4))) g4) : SW sc m_X10_component_ (d + 1) rc rs 106 [some (.ref r0), none, none, none, some (.int l4)] [] h P := by
  refine sw_aload_n dX10_component__106 rfl ?_
  refine sw_iload dX10_component__107 rfl ?_
  refine sw_iconst (v := 1) dX10_component__109 (by decide) ?_
  refine sw_cV dX10_component__110 lv_X10_121 hm4 hr4 rfl (by decide) rfl rfl rfl (Nat.le_of_ble_eq_true rfl) (fun _ _ => rfl) rfl ?_
  show SW sc m_X10_component_ _ _ _ 113 [some (.ref r0), none, none, none, some (.int l4)] [.int v4] g4 P
  exact sw_ret (v := (some (.int v4))) dX10_component__113 rt_i hP
theorem b_X10_component__114 {r0 : Nat} {l4 : Int32} {v4 : Int32} {g4 : ab_H} {fs4 : List Value} (hr4 : (h)[r0]? = some (10, fs4)) (hm4 : MSE m_X10_leastOf d [.ref r0, .int l4, .int 2] h (some (.int v4)) g4) (hP : P (.inl (some (.int v4))) g4) : SW sc m_X10_component_ (d + 1) rc rs 114 [some (.ref r0), none, none, none, some (.int l4)] [] h P := by
  refine sw_aload_n dX10_component__114 rfl ?_
  refine sw_iload dX10_component__115 rfl ?_
  refine sw_iconst (v := 2) dX10_component__117 (by decide) ?_
  refine sw_cV dX10_component__118 lv_X10_121 hm4 hr4 rfl (by decide) rfl rfl rfl (Nat.le_of_ble_eq_true rfl) (fun _ _ => rfl) rfl ?_
  show SW sc m_X10_component_ _ _ _ 121 [some (.ref r0), none, none, none, some (.int l4)] [.int v4] g4 P
  exact sw_ret (v := (some (.int v4))) dX10_component__121 rt_i hP
theorem b_X10_component__122 {r0 : Nat} {l1 : Int32} {v3 : Int32} {g3 : ab_H} {fs3 : List Value} (hr3 : (h)[r0]? = some (10, fs3)) (hm3 : MSE m_X10_classAt d [.ref r0, .int l1] h (some (.int v3)) g3) (hP : P (.inl (some (.int v3))) g3) : SW sc m_X10_component_ (d + 1) rc rs 122 [some (.ref r0), some (.int l1), none, none, none] [] h P := by
  refine sw_aload_n dX10_component__122 rfl ?_
  refine sw_iload_n dX10_component__123 rfl ?_
  refine sw_cV dX10_component__124 lv_X10_139 hm3 hr3 rfl (by decide) rfl rfl rfl (Nat.le_of_ble_eq_true rfl) (fun _ _ => rfl) rfl ?_
  show SW sc m_X10_component_ _ _ _ 127 [some (.ref r0), some (.int l1), none, none, none] [.int v3] g3 P
  exact sw_ret (v := (some (.int v3))) dX10_component__127 rt_i hP
theorem b_X10_component__128 {r0 : Nat} {l4 : Int32} {v3 : Int32} {g3 : ab_H} {fs3 : List Value} (hr3 : (h)[r0]? = some (10, fs3)) (hm3 : MSE m_X10_leavesIn d [.ref r0, .int l4] h (some (.int v3)) g3) (hP : P (.inl (some (.int v3))) g3) : SW sc m_X10_component_ (d + 1) rc rs 128 [some (.ref r0), none, none, none, some (.int l4)] [] h P := by
  refine sw_aload_n dX10_component__128 rfl ?_
  refine sw_iload dX10_component__129 rfl ?_
  refine sw_cV dX10_component__131 lv_X10_271 hm3 hr3 rfl (by decide) rfl rfl rfl (Nat.le_of_ble_eq_true rfl) (fun _ _ => rfl) rfl ?_
  show SW sc m_X10_component_ _ _ _ 134 [some (.ref r0), none, none, none, some (.int l4)] [.int v3] g3 P
  exact sw_ret (v := (some (.int v3))) dX10_component__134 rt_i hP
theorem b_X10_distance_0 {r0 : Nat} {l1 : Int32} {l2 : Int32} {v4 : Int32} {g4 : ab_H} {fs4 : List Value} (hr4 : (h)[r0]? = some (10, fs4)) (hm4 : MSE m_X10_isVertex d [.ref r0, .int l1] h (some (.int v4)) g4) (kt : v4 = 0 → SW sc m_X10_distance (d + 1) rc rs 17 [some (.ref r0), some (.int l1), some (.int l2)] [.ref r0] g4 P) (kf : ¬ (v4 = 0) → SW sc m_X10_distance (d + 1) rc rs 9 [some (.ref r0), some (.int l1), some (.int l2)] [.ref r0] g4 P) : SW sc m_X10_distance (d + 1) rc rs 0 [some (.ref r0), some (.int l1), some (.int l2)] [] h P := by
  refine sw_aload_n dX10_distance_0 rfl ?_
  refine sw_aload_n dX10_distance_1 rfl ?_
  refine sw_iload_n dX10_distance_2 rfl ?_
  refine sw_cV dX10_distance_3 lv_X10_283 hm4 hr4 rfl (by decide) rfl rfl rfl (Nat.le_of_ble_eq_true rfl) (fun _ _ => rfl) rfl ?_
  show SW sc m_X10_distance _ _ _ 6 [some (.ref r0), some (.int l1), some (.int l2)] [.int v4, .ref r0] g4 P
  exact sw_if_eq dX10_distance_6 (by decide) (fun q => (kt q)) (fun q => (kf q))
theorem b_X10_distance_9 {r0 : Nat} {l1 : Int32} {l2 : Int32} {q0 : Nat} {v3 : Int32} {g3 : ab_H} {fs3 : List Value} (hr3 : (h)[r0]? = some (10, fs3)) (hm3 : MSE m_X10_isVertex d [.ref r0, .int l2] h (some (.int v3)) g3) (kt : ¬ v3 = 0 → SW sc m_X10_distance (d + 1) rc rs 21 [some (.ref r0), some (.int l1), some (.int l2)] [.ref q0] g3 P) (kf : v3 = 0 → SW sc m_X10_distance (d + 1) rc rs 17 [some (.ref r0), some (.int l1), some (.int l2)] [.ref q0] g3 P) : SW sc m_X10_distance (d + 1) rc rs 9 [some (.ref r0), some (.int l1), some (.int l2)] [.ref q0] h P := by
  refine sw_aload_n dX10_distance_9 rfl ?_
  refine sw_iload_n dX10_distance_10 rfl ?_
  refine sw_cV dX10_distance_11 lv_X10_283 hm3 hr3 rfl (by decide) rfl rfl rfl (Nat.le_of_ble_eq_true rfl) (fun _ _ => rfl) rfl ?_
  show SW sc m_X10_distance _ _ _ 14 [some (.ref r0), some (.int l1), some (.int l2)] [.int v3, .ref q0] g3 P
  exact sw_if_ne dX10_distance_14 (by decide) (fun q => (kt q)) (fun q => (kf q))
theorem b_X10_distance_17 {r0 : Nat} {l1 : Int32} {l2 : Int32} {q0 : Nat} (k : SW sc m_X10_distance d rc rs 22 [some (.ref r0), some (.int l1), some (.int l2)] [.int 1, .ref q0] h P) : SW sc m_X10_distance d rc rs 17 [some (.ref r0), some (.int l1), some (.int l2)] [.ref q0] h P := by
  refine sw_iconst (v := 1) dX10_distance_17 (by decide) ?_
  exact sw_goto dX10_distance_18 (by decide) (k)
theorem b_X10_distance_21 {r0 : Nat} {l1 : Int32} {l2 : Int32} {q0 : Nat} (k : SW sc m_X10_distance d rc rs 22 [some (.ref r0), some (.int l1), some (.int l2)] [.int 0, .ref q0] h P) : SW sc m_X10_distance d rc rs 21 [some (.ref r0), some (.int l1), some (.int l2)] [.ref q0] h P := by
  refine sw_iconst (v := 0) dX10_distance_21 (by decide) ?_
  exact (k)
theorem b_X10_distance_22 {r0 : Nat} {l1 : Int32} {l2 : Int32} {q0 : Nat} {s1 : Int32} {v2 : Int32} {g2 : ab_H} {fs2 : List Value} (hr2 : (h)[q0]? = some (10, fs2)) (hm2 : MSE m_X10_fails d [.ref q0, .int s1, .int 0] h (some (.int v2)) g2) (kt : v2 = 0 → SW sc m_X10_distance (d + 1) rc rs 33 [some (.ref r0), some (.int l1), some (.int l2)] [] g2 P) (kf : ¬ (v2 = 0) → SW sc m_X10_distance (d + 1) rc rs 29 [none, none, none] [] g2 P) : SW sc m_X10_distance (d + 1) rc rs 22 [some (.ref r0), some (.int l1), some (.int l2)] [.int s1, .ref q0] h P := by
  refine sw_iconst (v := 0) dX10_distance_22 (by decide) ?_
  refine sw_cV dX10_distance_23 lv_X10_286 hm2 hr2 rfl (by decide) rfl rfl rfl (Nat.le_of_ble_eq_true rfl) (fun _ _ => rfl) rfl ?_
  show SW sc m_X10_distance _ _ _ 26 [some (.ref r0), some (.int l1), some (.int l2)] [.int v2] g2 P
  exact sw_if_eq dX10_distance_26 (by decide) (fun q => (kt q)) (fun q => (sw_fg [true, true, true] rfl (kf q)))
theorem b_X10_distance_29  (k : SW sc m_X10_distance d rc rs 39 [none, none, none] [.int 0] h P) : SW sc m_X10_distance d rc rs 29 [none, none, none] [] h P := by
  refine sw_iconst (v := 0) dX10_distance_29 (by decide) ?_
  exact sw_goto dX10_distance_30 (by decide) (k)
theorem b_X10_distance_33 {r0 : Nat} {l1 : Int32} {l2 : Int32} {v4 : Int32} {g4 : ab_H} {fs4 : List Value} (hr4 : (h)[r0]? = some (10, fs4)) (hm4 : MSE m_X10_far d [.ref r0, .int l1, .int l2] h (some (.int v4)) g4) (k : SW sc m_X10_distance (d + 1) rc rs 39 [none, none, none] [.int v4] g4 P) : SW sc m_X10_distance (d + 1) rc rs 33 [some (.ref r0), some (.int l1), some (.int l2)] [] h P := by
  refine sw_aload_n dX10_distance_33 rfl ?_
  refine sw_iload_n dX10_distance_34 rfl ?_
  refine sw_iload_n dX10_distance_35 rfl ?_
  refine sw_cV dX10_distance_36 lv_X10_90 hm4 hr4 rfl (by decide) rfl rfl rfl (Nat.le_of_ble_eq_true rfl) (fun _ _ => rfl) rfl ?_
  show SW sc m_X10_distance _ _ _ 39 [some (.ref r0), some (.int l1), some (.int l2)] [.int v4] g4 P
  exact (sw_fg [true, true, true] rfl (k))
theorem b_X10_distance_39 {s0 : Int32} (hP : P (.inl (some (.int s0))) h) : SW sc m_X10_distance d rc rs 39 [none, none, none] [.int s0] h P := by
  exact sw_ret (v := (some (.int s0))) dX10_distance_39 rt_i hP
theorem b_X10_isBetween_0 {r0 : Nat} {l1 : Int32} {l2 : Int32} {l3 : Int32} {v4 : Int32} {g4 : ab_H} {fs4 : List Value} (hr4 : (h)[r0]? = some (10, fs4)) (hm4 : MSE m_X10_far d [.ref r0, .int l2, .int l1] h (some (.int v4)) g4) (kt : v4 = (-1) → SW sc m_X10_isBetween (d + 1) rc rs 36 [none, none, none, none] [] g4 P) (kf : ¬ (v4 = (-1)) → SW sc m_X10_isBetween (d + 1) rc rs 10 [some (.ref r0), some (.int l1), some (.int l2), some (.int l3)] [] g4 P) : SW sc m_X10_isBetween (d + 1) rc rs 0 [some (.ref r0), some (.int l1), some (.int l2), some (.int l3)] [] h P := by
  refine sw_aload_n dX10_isBetween_0 rfl ?_
  refine sw_iload_n dX10_isBetween_1 rfl ?_
  refine sw_iload_n dX10_isBetween_2 rfl ?_
  refine sw_cV dX10_isBetween_3 lv_X10_90 hm4 hr4 rfl (by decide) rfl rfl rfl (Nat.le_of_ble_eq_true rfl) (fun _ _ => rfl) rfl ?_
  show SW sc m_X10_isBetween _ _ _ 6 [some (.ref r0), some (.int l1), some (.int l2), some (.int l3)] [.int v4] g4 P
  refine sw_iconst (v := (-1)) dX10_isBetween_6 (by decide) ?_
  exact sw_icmp_eq dX10_isBetween_7 (by decide) (fun q => (sw_fg [true, true, true, true] rfl (kt q))) (fun q => (kf q))
theorem b_X10_isBetween_10 {r0 : Nat} {l1 : Int32} {l2 : Int32} {l3 : Int32} {v4 : Int32} {g4 : ab_H} {fs4 : List Value} {v8 : Int32} {g8 : ab_H} {fs8 : List Value} {v13 : Int32} {g13 : ab_H} {fs13 : List Value} (hr4 : (h)[r0]? = some (10, fs4)) (hm4 : MSE m_X10_far d [.ref r0, .int l2, .int l1] h (some (.int v4)) g4) (hr8 : (g4)[r0]? = some (10, fs8)) (hm8 : MSE m_X10_far d [.ref r0, .int l1, .int l3] g4 (some (.int v8)) g8) (hr13 : (g8)[r0]? = some (10, fs13)) (hm13 : MSE m_X10_far d [.ref r0, .int l2, .int l3] g8 (some (.int v13)) g13) (kt : ¬ (v4 + v8) = v13 → SW sc m_X10_isBetween (d + 1) rc rs 36 [none, none, none, none] [] g13 P) (kf : (v4 + v8) = v13 → SW sc m_X10_isBetween (d + 1) rc rs 32 [none, none, none, none] [] g13 P) : SW sc m_X10_isBetween (d + 1) rc rs 10 [some (.ref r0), some (.int l1), some (.int l2), some (.int l3)] [] h P := by
  refine sw_aload_n dX10_isBetween_10 rfl ?_
  refine sw_iload_n dX10_isBetween_11 rfl ?_
  refine sw_iload_n dX10_isBetween_12 rfl ?_
  refine sw_cV dX10_isBetween_13 lv_X10_90 hm4 hr4 rfl (by decide) rfl rfl rfl (Nat.le_of_ble_eq_true rfl) (fun _ _ => rfl) rfl ?_
  show SW sc m_X10_isBetween _ _ _ 16 [some (.ref r0), some (.int l1), some (.int l2), some (.int l3)] [.int v4] g4 P
  refine sw_aload_n dX10_isBetween_16 rfl ?_
  refine sw_iload_n dX10_isBetween_17 rfl ?_
  refine sw_iload_n dX10_isBetween_18 rfl ?_
  refine sw_cV dX10_isBetween_19 lv_X10_90 hm8 hr8 rfl (by decide) rfl rfl rfl (Nat.le_of_ble_eq_true rfl) (fun _ _ => rfl) rfl ?_
  show SW sc m_X10_isBetween _ _ _ 22 [some (.ref r0), some (.int l1), some (.int l2), some (.int l3)] [.int v8, .int v4] g8 P
  refine sw_iadd dX10_isBetween_22 ?_
  refine sw_aload_n dX10_isBetween_23 rfl ?_
  refine sw_iload_n dX10_isBetween_24 rfl ?_
  refine sw_iload_n dX10_isBetween_25 rfl ?_
  refine sw_cV dX10_isBetween_26 lv_X10_90 hm13 hr13 rfl (by decide) rfl rfl rfl (Nat.le_of_ble_eq_true rfl) (fun _ _ => rfl) rfl ?_
  show SW sc m_X10_isBetween _ _ _ 29 [some (.ref r0), some (.int l1), some (.int l2), some (.int l3)] [.int v13, .int (v4 + v8)] g13 P
  exact sw_icmp_ne dX10_isBetween_29 (by decide) (fun q => (sw_fg [true, true, true, true] rfl (kt q))) (fun q => (sw_fg [true, true, true, true] rfl (kf q)))
theorem b_X10_isBetween_32  (k : SW sc m_X10_isBetween d rc rs 37 [none, none, none, none] [.int 1] h P) : SW sc m_X10_isBetween d rc rs 32 [none, none, none, none] [] h P := by
  refine sw_iconst (v := 1) dX10_isBetween_32 (by decide) ?_
  exact sw_goto dX10_isBetween_33 (by decide) (k)
theorem b_X10_isBetween_36  (k : SW sc m_X10_isBetween d rc rs 37 [none, none, none, none] [.int 0] h P) : SW sc m_X10_isBetween d rc rs 36 [none, none, none, none] [] h P := by
  refine sw_iconst (v := 0) dX10_isBetween_36 (by decide) ?_
  exact (k)
theorem b_X10_isBetween_37 {s0 : Int32} (hz1 : narrow .boolean (.int s0) = .int s0) (hP : P (.inl (some (.int s0))) h) : SW sc m_X10_isBetween d rc rs 37 [none, none, none, none] [.int s0] h P := by
  exact sw_ret (v := (some (.int s0))) dX10_isBetween_37 (rt_n hz1) hP
theorem b_X10_onPath_0 {r0 : Nat} {l1 : Int32} {l2 : Int32} {l3 : Int32} {v3 : Int32} {g3 : ab_H} {fs3 : List Value} (hr3 : (h)[r0]? = some (10, fs3)) (hm3 : MSE m_X10_isVertex d [.ref r0, .int l1] h (some (.int v3)) g3) (kt : v3 = 0 → SW sc m_X10_onPath (d + 1) rc rs 20 [some (.ref r0), some (.int l1), some (.int l2), some (.int l3), none, none] [] g3 P) (kf : ¬ (v3 = 0) → SW sc m_X10_onPath (d + 1) rc rs 8 [some (.ref r0), some (.int l1), some (.int l2), some (.int l3), none, none] [] g3 P) : SW sc m_X10_onPath (d + 1) rc rs 0 [some (.ref r0), some (.int l1), some (.int l2), some (.int l3), none, none] [] h P := by
  refine sw_aload_n dX10_onPath_0 rfl ?_
  refine sw_iload_n dX10_onPath_1 rfl ?_
  refine sw_cV dX10_onPath_2 lv_X10_283 hm3 hr3 rfl (by decide) rfl rfl rfl (Nat.le_of_ble_eq_true rfl) (fun _ _ => rfl) rfl ?_
  show SW sc m_X10_onPath _ _ _ 5 [some (.ref r0), some (.int l1), some (.int l2), some (.int l3), none, none] [.int v3] g3 P
  exact sw_if_eq dX10_onPath_5 (by decide) (fun q => (kt q)) (fun q => (kf q))
theorem b_X10_onPath_8 {r0 : Nat} {l1 : Int32} {l2 : Int32} {l3 : Int32} {v3 : Int32} {g3 : ab_H} {fs3 : List Value} (hr3 : (h)[r0]? = some (10, fs3)) (hm3 : MSE m_X10_isVertex d [.ref r0, .int l2] h (some (.int v3)) g3) (kt : v3 = 0 → SW sc m_X10_onPath (d + 1) rc rs 20 [some (.ref r0), some (.int l1), some (.int l2), some (.int l3), none, none] [] g3 P) (kf : ¬ (v3 = 0) → SW sc m_X10_onPath (d + 1) rc rs 16 [some (.ref r0), some (.int l1), some (.int l2), some (.int l3), none, none] [] g3 P) : SW sc m_X10_onPath (d + 1) rc rs 8 [some (.ref r0), some (.int l1), some (.int l2), some (.int l3), none, none] [] h P := by
  refine sw_aload_n dX10_onPath_8 rfl ?_
  refine sw_iload_n dX10_onPath_9 rfl ?_
  refine sw_cV dX10_onPath_10 lv_X10_283 hm3 hr3 rfl (by decide) rfl rfl rfl (Nat.le_of_ble_eq_true rfl) (fun _ _ => rfl) rfl ?_
  show SW sc m_X10_onPath _ _ _ 13 [some (.ref r0), some (.int l1), some (.int l2), some (.int l3), none, none] [.int v3] g3 P
  exact sw_if_eq dX10_onPath_13 (by decide) (fun q => (kt q)) (fun q => (kf q))
theorem b_X10_onPath_16 {r0 : Nat} {l1 : Int32} {l2 : Int32} {l3 : Int32} (k : SW sc m_X10_onPath d rc rs 21 [some (.ref r0), some (.int l1), some (.int l2), some (.int l3), none, none] [.int 1] h P) : SW sc m_X10_onPath d rc rs 16 [some (.ref r0), some (.int l1), some (.int l2), some (.int l3), none, none] [] h P := by
  refine sw_iconst (v := 1) dX10_onPath_16 (by decide) ?_
  exact sw_goto dX10_onPath_17 (by decide) (k)
theorem b_X10_onPath_20 {r0 : Nat} {l1 : Int32} {l2 : Int32} {l3 : Int32} (k : SW sc m_X10_onPath d rc rs 21 [some (.ref r0), some (.int l1), some (.int l2), some (.int l3), none, none] [.int 0] h P) : SW sc m_X10_onPath d rc rs 20 [some (.ref r0), some (.int l1), some (.int l2), some (.int l3), none, none] [] h P := by
  refine sw_iconst (v := 0) dX10_onPath_20 (by decide) ?_
  exact (k)
theorem b_X10_onPath_21 {r0 : Nat} {l1 : Int32} {l2 : Int32} {l3 : Int32} {s0 : Int32} (kt : ¬ s0 = 0 → SW sc m_X10_onPath d rc rs 33 [some (.ref r0), some (.int l1), some (.int l2), some (.int l3), some (.int s0), none] [.ref r0] h P) (kf : s0 = 0 → SW sc m_X10_onPath d rc rs 29 [some (.ref r0), some (.int l1), some (.int l2), some (.int l3), some (.int s0), none] [.ref r0] h P) : SW sc m_X10_onPath d rc rs 21 [some (.ref r0), some (.int l1), some (.int l2), some (.int l3), none, none] [.int s0] h P := by
  refine sw_istore dX10_onPath_21 (by decide) rfl ?_
  show SW sc m_X10_onPath _ _ _ 23 [some (.ref r0), some (.int l1), some (.int l2), some (.int l3), some (.int s0), none] [] h P
  refine sw_aload_n dX10_onPath_23 rfl ?_
  refine sw_iload dX10_onPath_24 rfl ?_
  exact sw_if_ne dX10_onPath_26 (by decide) (fun q => (kt q)) (fun q => (kf q))
theorem b_X10_onPath_29 {r0 : Nat} {l1 : Int32} {l2 : Int32} {l3 : Int32} {l4 : Int32} {q0 : Nat} (k : SW sc m_X10_onPath d rc rs 34 [some (.ref r0), some (.int l1), some (.int l2), some (.int l3), some (.int l4), none] [.int 1, .ref q0] h P) : SW sc m_X10_onPath d rc rs 29 [some (.ref r0), some (.int l1), some (.int l2), some (.int l3), some (.int l4), none] [.ref q0] h P := by
  refine sw_iconst (v := 1) dX10_onPath_29 (by decide) ?_
  exact sw_goto dX10_onPath_30 (by decide) (k)
theorem b_X10_onPath_33 {r0 : Nat} {l1 : Int32} {l2 : Int32} {l3 : Int32} {l4 : Int32} {q0 : Nat} (k : SW sc m_X10_onPath d rc rs 34 [some (.ref r0), some (.int l1), some (.int l2), some (.int l3), some (.int l4), none] [.int 0, .ref q0] h P) : SW sc m_X10_onPath d rc rs 33 [some (.ref r0), some (.int l1), some (.int l2), some (.int l3), some (.int l4), none] [.ref q0] h P := by
  refine sw_iconst (v := 0) dX10_onPath_33 (by decide) ?_
  exact (k)
theorem b_X10_onPath_34 {r0 : Nat} {l1 : Int32} {l2 : Int32} {l3 : Int32} {l4 : Int32} {q0 : Nat} {s1 : Int32} (kt : l4 = 0 → SW sc m_X10_onPath d rc rs 67 [some (.ref r0), some (.int l1), some (.int l2), some (.int l3), none, none] [.int s1, .ref q0] h P) (kf : ¬ (l4 = 0) → SW sc m_X10_onPath d rc rs 39 [some (.ref r0), some (.int l1), some (.int l2), some (.int l3), none, none] [.int s1, .ref q0] h P) : SW sc m_X10_onPath d rc rs 34 [some (.ref r0), some (.int l1), some (.int l2), some (.int l3), some (.int l4), none] [.int s1, .ref q0] h P := by
  refine sw_iload dX10_onPath_34 rfl ?_
  exact sw_if_eq dX10_onPath_36 (by decide) (fun q => (sw_fg [false, false, false, false, true, false] rfl (kt q))) (fun q => (sw_fg [false, false, false, false, true, false] rfl (kf q)))
theorem b_X10_onPath_39 {r0 : Nat} {l1 : Int32} {l2 : Int32} {l3 : Int32} {q0 : Nat} {s1 : Int32} {v4 : Int32} {g4 : ab_H} {fs4 : List Value} (hr4 : (h)[r0]? = some (10, fs4)) (hm4 : MSE m_X10_far d [.ref r0, .int l1, .int l2] h (some (.int v4)) g4) (kt : v4 = (-1) → SW sc m_X10_onPath (d + 1) rc rs 63 [some (.ref r0), some (.int l1), some (.int l2), some (.int l3), none, none] [.int s1, .ref q0] g4 P) (kf : ¬ (v4 = (-1)) → SW sc m_X10_onPath (d + 1) rc rs 49 [some (.ref r0), some (.int l1), some (.int l2), some (.int l3), none, none] [.int s1, .ref q0] g4 P) : SW sc m_X10_onPath (d + 1) rc rs 39 [some (.ref r0), some (.int l1), some (.int l2), some (.int l3), none, none] [.int s1, .ref q0] h P := by
  refine sw_aload_n dX10_onPath_39 rfl ?_
  refine sw_iload_n dX10_onPath_40 rfl ?_
  refine sw_iload_n dX10_onPath_41 rfl ?_
  refine sw_cV dX10_onPath_42 lv_X10_90 hm4 hr4 rfl (by decide) rfl rfl rfl (Nat.le_of_ble_eq_true rfl) (fun _ _ => rfl) rfl ?_
  show SW sc m_X10_onPath _ _ _ 45 [some (.ref r0), some (.int l1), some (.int l2), some (.int l3), none, none] [.int v4, .int s1, .ref q0] g4 P
  refine sw_iconst (v := (-1)) dX10_onPath_45 (by decide) ?_
  exact sw_icmp_eq dX10_onPath_46 (by decide) (fun q => (kt q)) (fun q => (kf q))
theorem b_X10_onPath_49 {r0 : Nat} {l1 : Int32} {l2 : Int32} {l3 : Int32} {q0 : Nat} {s1 : Int32} {v6 : Int32} {g6 : ab_H} {fs6 : List Value} {v7 : Int32} {g7 : ab_H} (hr6 : (h)[r0]? = some (10, fs6)) (hm6 : MSE m_X10_far d [.ref r0, .int l1, .int l2] h (some (.int v6)) g6) (hm7 : MSE m_X10_isIn d [.int l3, .int 0, .int v6] g6 (some (.int v7)) g7) (kt : ¬ v7 = 0 → SW sc m_X10_onPath (d + 1) rc rs 67 [some (.ref r0), some (.int l1), some (.int l2), some (.int l3), none, none] [.int s1, .ref q0] g7 P) (kf : v7 = 0 → SW sc m_X10_onPath (d + 1) rc rs 63 [some (.ref r0), some (.int l1), some (.int l2), some (.int l3), none, none] [.int s1, .ref q0] g7 P) : SW sc m_X10_onPath (d + 1) rc rs 49 [some (.ref r0), some (.int l1), some (.int l2), some (.int l3), none, none] [.int s1, .ref q0] h P := by
  refine sw_iload_n dX10_onPath_49 rfl ?_
  refine sw_iconst (v := 0) dX10_onPath_50 (by decide) ?_
  refine sw_aload_n dX10_onPath_51 rfl ?_
  refine sw_iload_n dX10_onPath_52 rfl ?_
  refine sw_iload_n dX10_onPath_53 rfl ?_
  refine sw_cV dX10_onPath_54 lv_X10_90 hm6 hr6 rfl (by decide) rfl rfl rfl (Nat.le_of_ble_eq_true rfl) (fun _ _ => rfl) rfl ?_
  show SW sc m_X10_onPath _ _ _ 57 [some (.ref r0), some (.int l1), some (.int l2), some (.int l3), none, none] [.int v6, .int 0, .int l3, .int s1, .ref q0] g6 P
  refine sw_cS dX10_onPath_57 ls_X10_153 hm7 rfl rfl (Nat.le_of_ble_eq_true rfl) (fun _ _ => rfl) rfl ?_
  show SW sc m_X10_onPath _ _ _ 60 [some (.ref r0), some (.int l1), some (.int l2), some (.int l3), none, none] [.int v7, .int s1, .ref q0] g7 P
  exact sw_if_ne dX10_onPath_60 (by decide) (fun q => (kt q)) (fun q => (kf q))
theorem b_X10_onPath_63 {r0 : Nat} {l1 : Int32} {l2 : Int32} {l3 : Int32} {q0 : Nat} {s1 : Int32} (k : SW sc m_X10_onPath d rc rs 68 [some (.ref r0), some (.int l1), some (.int l2), some (.int l3), none, none] [.int 1, .int s1, .ref q0] h P) : SW sc m_X10_onPath d rc rs 63 [some (.ref r0), some (.int l1), some (.int l2), some (.int l3), none, none] [.int s1, .ref q0] h P := by
  refine sw_iconst (v := 1) dX10_onPath_63 (by decide) ?_
  exact sw_goto dX10_onPath_64 (by decide) (k)
theorem b_X10_onPath_67 {r0 : Nat} {l1 : Int32} {l2 : Int32} {l3 : Int32} {q0 : Nat} {s1 : Int32} (k : SW sc m_X10_onPath d rc rs 68 [some (.ref r0), some (.int l1), some (.int l2), some (.int l3), none, none] [.int 0, .int s1, .ref q0] h P) : SW sc m_X10_onPath d rc rs 67 [some (.ref r0), some (.int l1), some (.int l2), some (.int l3), none, none] [.int s1, .ref q0] h P := by
  refine sw_iconst (v := 0) dX10_onPath_67 (by decide) ?_
  exact (k)
theorem b_X10_onPath_68 {r0 : Nat} {l1 : Int32} {l2 : Int32} {l3 : Int32} {q0 : Nat} {s1 : Int32} {s2 : Int32} {v1 : Int32} {g1 : ab_H} {fs1 : List Value} (hr1 : (h)[q0]? = some (10, fs1)) (hm1 : MSE m_X10_fails d [.ref q0, .int s1, .int s2] h (some (.int v1)) g1) (kt : v1 = 0 → SW sc m_X10_onPath (d + 1) rc rs 76 [some (.ref r0), some (.int l1), some (.int l2), some (.int l3), none, none] [] g1 P) (kf : ¬ (v1 = 0) → SW sc m_X10_onPath (d + 1) rc rs 74 [none, none, none, none, none, none] [] g1 P) : SW sc m_X10_onPath (d + 1) rc rs 68 [some (.ref r0), some (.int l1), some (.int l2), some (.int l3), none, none] [.int s2, .int s1, .ref q0] h P := by
  refine sw_cV dX10_onPath_68 lv_X10_286 hm1 hr1 rfl (by decide) rfl rfl rfl (Nat.le_of_ble_eq_true rfl) (fun _ _ => rfl) rfl ?_
  show SW sc m_X10_onPath _ _ _ 71 [some (.ref r0), some (.int l1), some (.int l2), some (.int l3), none, none] [.int v1] g1 P
  exact sw_if_eq dX10_onPath_71 (by decide) (fun q => (kt q)) (fun q => (sw_fg [true, true, true, true, false, false] rfl (kf q)))
theorem b_X10_onPath_74  (hP : P (.inl (some (.int 0))) h) : SW sc m_X10_onPath d rc rs 74 [none, none, none, none, none, none] [] h P := by
  refine sw_iconst (v := 0) dX10_onPath_74 (by decide) ?_
  exact sw_ret (v := (some (.int 0))) dX10_onPath_75 rt_i hP
theorem b_X10_onPath_76 {r0 : Nat} {l1 : Int32} {l2 : Int32} {l3 : Int32} (k : SW sc m_X10_onPath d rc rs 79 [some (.ref r0), some (.int l1), some (.int l2), some (.int l3), none, some (.int 0)] [] h P) : SW sc m_X10_onPath d rc rs 76 [some (.ref r0), some (.int l1), some (.int l2), some (.int l3), none, none] [] h P := by
  refine sw_iconst (v := 0) dX10_onPath_76 (by decide) ?_
  refine sw_istore dX10_onPath_77 (by decide) rfl ?_
  show SW sc m_X10_onPath _ _ _ 79 [some (.ref r0), some (.int l1), some (.int l2), some (.int l3), none, some (.int 0)] [] h P
  exact (k)
theorem b_X10_onPath_79 {r0 : Nat} {l1 : Int32} {l2 : Int32} {l3 : Int32} {l5 : Int32} {v5 : Int32} {g5 : ab_H} {fs5 : List Value} (hr5 : (h)[r0]? = some (10, fs5)) (hm5 : MSE m_X10_isBetween d [.ref r0, .int l5, .int l1, .int l2] h (some (.int v5)) g5) (kt : v5 = 0 → SW sc m_X10_onPath (d + 1) rc rs 101 [some (.ref r0), some (.int l1), some (.int l2), some (.int l3), none, some (.int l5)] [] g5 P) (kf : ¬ (v5 = 0) → SW sc m_X10_onPath (d + 1) rc rs 90 [some (.ref r0), some (.int l1), some (.int l2), some (.int l3), none, some (.int l5)] [] g5 P) : SW sc m_X10_onPath (d + 1) rc rs 79 [some (.ref r0), some (.int l1), some (.int l2), some (.int l3), none, some (.int l5)] [] h P := by
  refine sw_aload_n dX10_onPath_79 rfl ?_
  refine sw_iload dX10_onPath_80 rfl ?_
  refine sw_iload_n dX10_onPath_82 rfl ?_
  refine sw_iload_n dX10_onPath_83 rfl ?_
  refine sw_cV dX10_onPath_84 lv_X10_301 hm5 hr5 rfl (by decide) rfl rfl rfl (Nat.le_of_ble_eq_true rfl) (fun _ _ => rfl) rfl ?_
  show SW sc m_X10_onPath _ _ _ 87 [some (.ref r0), some (.int l1), some (.int l2), some (.int l3), none, some (.int l5)] [.int v5] g5 P
  exact sw_if_eq dX10_onPath_87 (by decide) (fun q => (kt q)) (fun q => (kf q))
theorem b_X10_onPath_90 {r0 : Nat} {l1 : Int32} {l2 : Int32} {l3 : Int32} {l5 : Int32} {v4 : Int32} {g4 : ab_H} {fs4 : List Value} (hr4 : (h)[r0]? = some (10, fs4)) (hm4 : MSE m_X10_far d [.ref r0, .int l1, .int l5] h (some (.int v4)) g4) (kt : v4 = l3 → SW sc m_X10_onPath (d + 1) rc rs 107 [none, none, none, none, none, some (.int l5)] [] g4 P) (kf : ¬ (v4 = l3) → SW sc m_X10_onPath (d + 1) rc rs 101 [some (.ref r0), some (.int l1), some (.int l2), some (.int l3), none, some (.int l5)] [] g4 P) : SW sc m_X10_onPath (d + 1) rc rs 90 [some (.ref r0), some (.int l1), some (.int l2), some (.int l3), none, some (.int l5)] [] h P := by
  refine sw_aload_n dX10_onPath_90 rfl ?_
  refine sw_iload_n dX10_onPath_91 rfl ?_
  refine sw_iload dX10_onPath_92 rfl ?_
  refine sw_cV dX10_onPath_94 lv_X10_90 hm4 hr4 rfl (by decide) rfl rfl rfl (Nat.le_of_ble_eq_true rfl) (fun _ _ => rfl) rfl ?_
  show SW sc m_X10_onPath _ _ _ 97 [some (.ref r0), some (.int l1), some (.int l2), some (.int l3), none, some (.int l5)] [.int v4] g4 P
  refine sw_iload_n dX10_onPath_97 rfl ?_
  exact sw_icmp_eq dX10_onPath_98 (by decide) (fun q => (sw_fg [true, true, true, true, false, false] rfl (kt q))) (fun q => (kf q))
theorem b_X10_onPath_101 {r0 : Nat} {l1 : Int32} {l2 : Int32} {l3 : Int32} {l5 : Int32} (k : SW sc m_X10_onPath d rc rs 79 [some (.ref r0), some (.int l1), some (.int l2), some (.int l3), none, some (.int (l5 + 1))] [] h P) : SW sc m_X10_onPath d rc rs 101 [some (.ref r0), some (.int l1), some (.int l2), some (.int l3), none, some (.int l5)] [] h P := by
  refine sw_iinc (v := l5 + 1) dX10_onPath_101 rfl rfl (by decide) rfl ?_
  show SW sc m_X10_onPath _ _ _ 104 [some (.ref r0), some (.int l1), some (.int l2), some (.int l3), none, some (.int (l5 + 1))] [] h P
  exact sw_goto dX10_onPath_104 (by decide) (k)
theorem b_X10_onPath_107 {l5 : Int32} (hP : P (.inl (some (.int l5))) h) : SW sc m_X10_onPath d rc rs 107 [none, none, none, none, none, some (.int l5)] [] h P := by
  refine sw_iload dX10_onPath_107 rfl ?_
  exact sw_ret (v := (some (.int l5))) dX10_onPath_109 rt_i hP
theorem b_X10_median_0 {r0 : Nat} {l1 : Int32} {l2 : Int32} {l3 : Int32} {v3 : Int32} {g3 : ab_H} {fs3 : List Value} (hr3 : (h)[r0]? = some (10, fs3)) (hm3 : MSE m_X10_isVertex d [.ref r0, .int l1] h (some (.int v3)) g3) (kt : v3 = 0 → SW sc m_X10_median (d + 1) rc rs 28 [some (.ref r0), some (.int l1), some (.int l2), some (.int l3), none, none] [] g3 P) (kf : ¬ (v3 = 0) → SW sc m_X10_median (d + 1) rc rs 8 [some (.ref r0), some (.int l1), some (.int l2), some (.int l3), none, none] [] g3 P) : SW sc m_X10_median (d + 1) rc rs 0 [some (.ref r0), some (.int l1), some (.int l2), some (.int l3), none, none] [] h P := by
  refine sw_aload_n dX10_median_0 rfl ?_
  refine sw_iload_n dX10_median_1 rfl ?_
  refine sw_cV dX10_median_2 lv_X10_283 hm3 hr3 rfl (by decide) rfl rfl rfl (Nat.le_of_ble_eq_true rfl) (fun _ _ => rfl) rfl ?_
  show SW sc m_X10_median _ _ _ 5 [some (.ref r0), some (.int l1), some (.int l2), some (.int l3), none, none] [.int v3] g3 P
  exact sw_if_eq dX10_median_5 (by decide) (fun q => (kt q)) (fun q => (kf q))
theorem b_X10_median_8 {r0 : Nat} {l1 : Int32} {l2 : Int32} {l3 : Int32} {v3 : Int32} {g3 : ab_H} {fs3 : List Value} (hr3 : (h)[r0]? = some (10, fs3)) (hm3 : MSE m_X10_isVertex d [.ref r0, .int l2] h (some (.int v3)) g3) (kt : v3 = 0 → SW sc m_X10_median (d + 1) rc rs 28 [some (.ref r0), some (.int l1), some (.int l2), some (.int l3), none, none] [] g3 P) (kf : ¬ (v3 = 0) → SW sc m_X10_median (d + 1) rc rs 16 [some (.ref r0), some (.int l1), some (.int l2), some (.int l3), none, none] [] g3 P) : SW sc m_X10_median (d + 1) rc rs 8 [some (.ref r0), some (.int l1), some (.int l2), some (.int l3), none, none] [] h P := by
  refine sw_aload_n dX10_median_8 rfl ?_
  refine sw_iload_n dX10_median_9 rfl ?_
  refine sw_cV dX10_median_10 lv_X10_283 hm3 hr3 rfl (by decide) rfl rfl rfl (Nat.le_of_ble_eq_true rfl) (fun _ _ => rfl) rfl ?_
  show SW sc m_X10_median _ _ _ 13 [some (.ref r0), some (.int l1), some (.int l2), some (.int l3), none, none] [.int v3] g3 P
  exact sw_if_eq dX10_median_13 (by decide) (fun q => (kt q)) (fun q => (kf q))
theorem b_X10_median_16 {r0 : Nat} {l1 : Int32} {l2 : Int32} {l3 : Int32} {v3 : Int32} {g3 : ab_H} {fs3 : List Value} (hr3 : (h)[r0]? = some (10, fs3)) (hm3 : MSE m_X10_isVertex d [.ref r0, .int l3] h (some (.int v3)) g3) (kt : v3 = 0 → SW sc m_X10_median (d + 1) rc rs 28 [some (.ref r0), some (.int l1), some (.int l2), some (.int l3), none, none] [] g3 P) (kf : ¬ (v3 = 0) → SW sc m_X10_median (d + 1) rc rs 24 [some (.ref r0), some (.int l1), some (.int l2), some (.int l3), none, none] [] g3 P) : SW sc m_X10_median (d + 1) rc rs 16 [some (.ref r0), some (.int l1), some (.int l2), some (.int l3), none, none] [] h P := by
  refine sw_aload_n dX10_median_16 rfl ?_
  refine sw_iload_n dX10_median_17 rfl ?_
  refine sw_cV dX10_median_18 lv_X10_283 hm3 hr3 rfl (by decide) rfl rfl rfl (Nat.le_of_ble_eq_true rfl) (fun _ _ => rfl) rfl ?_
  show SW sc m_X10_median _ _ _ 21 [some (.ref r0), some (.int l1), some (.int l2), some (.int l3), none, none] [.int v3] g3 P
  exact sw_if_eq dX10_median_21 (by decide) (fun q => (kt q)) (fun q => (kf q))
theorem b_X10_median_24 {r0 : Nat} {l1 : Int32} {l2 : Int32} {l3 : Int32} (k : SW sc m_X10_median d rc rs 29 [some (.ref r0), some (.int l1), some (.int l2), some (.int l3), none, none] [.int 1] h P) : SW sc m_X10_median d rc rs 24 [some (.ref r0), some (.int l1), some (.int l2), some (.int l3), none, none] [] h P := by
  refine sw_iconst (v := 1) dX10_median_24 (by decide) ?_
  exact sw_goto dX10_median_25 (by decide) (k)
theorem b_X10_median_28 {r0 : Nat} {l1 : Int32} {l2 : Int32} {l3 : Int32} (k : SW sc m_X10_median d rc rs 29 [some (.ref r0), some (.int l1), some (.int l2), some (.int l3), none, none] [.int 0] h P) : SW sc m_X10_median d rc rs 28 [some (.ref r0), some (.int l1), some (.int l2), some (.int l3), none, none] [] h P := by
  refine sw_iconst (v := 0) dX10_median_28 (by decide) ?_
  exact (k)
theorem b_X10_median_29 {r0 : Nat} {l1 : Int32} {l2 : Int32} {l3 : Int32} {s0 : Int32} (kt : ¬ s0 = 0 → SW sc m_X10_median d rc rs 41 [some (.ref r0), some (.int l1), some (.int l2), some (.int l3), some (.int s0), none] [.ref r0] h P) (kf : s0 = 0 → SW sc m_X10_median d rc rs 37 [some (.ref r0), some (.int l1), some (.int l2), some (.int l3), some (.int s0), none] [.ref r0] h P) : SW sc m_X10_median d rc rs 29 [some (.ref r0), some (.int l1), some (.int l2), some (.int l3), none, none] [.int s0] h P := by
  refine sw_istore dX10_median_29 (by decide) rfl ?_
  show SW sc m_X10_median _ _ _ 31 [some (.ref r0), some (.int l1), some (.int l2), some (.int l3), some (.int s0), none] [] h P
  refine sw_aload_n dX10_median_31 rfl ?_
  refine sw_iload dX10_median_32 rfl ?_
  exact sw_if_ne dX10_median_34 (by decide) (fun q => (kt q)) (fun q => (kf q))
theorem b_X10_median_37 {r0 : Nat} {l1 : Int32} {l2 : Int32} {l3 : Int32} {l4 : Int32} {q0 : Nat} (k : SW sc m_X10_median d rc rs 42 [some (.ref r0), some (.int l1), some (.int l2), some (.int l3), some (.int l4), none] [.int 1, .ref q0] h P) : SW sc m_X10_median d rc rs 37 [some (.ref r0), some (.int l1), some (.int l2), some (.int l3), some (.int l4), none] [.ref q0] h P := by
  refine sw_iconst (v := 1) dX10_median_37 (by decide) ?_
  exact sw_goto dX10_median_38 (by decide) (k)
theorem b_X10_median_41 {r0 : Nat} {l1 : Int32} {l2 : Int32} {l3 : Int32} {l4 : Int32} {q0 : Nat} (k : SW sc m_X10_median d rc rs 42 [some (.ref r0), some (.int l1), some (.int l2), some (.int l3), some (.int l4), none] [.int 0, .ref q0] h P) : SW sc m_X10_median d rc rs 41 [some (.ref r0), some (.int l1), some (.int l2), some (.int l3), some (.int l4), none] [.ref q0] h P := by
  refine sw_iconst (v := 0) dX10_median_41 (by decide) ?_
  exact (k)
theorem b_X10_median_42 {r0 : Nat} {l1 : Int32} {l2 : Int32} {l3 : Int32} {l4 : Int32} {q0 : Nat} {s1 : Int32} (kt : l4 = 0 → SW sc m_X10_median d rc rs 71 [some (.ref r0), some (.int l1), some (.int l2), some (.int l3), none, none] [.int s1, .ref q0] h P) (kf : ¬ (l4 = 0) → SW sc m_X10_median d rc rs 47 [some (.ref r0), some (.int l1), some (.int l2), some (.int l3), none, none] [.int s1, .ref q0] h P) : SW sc m_X10_median d rc rs 42 [some (.ref r0), some (.int l1), some (.int l2), some (.int l3), some (.int l4), none] [.int s1, .ref q0] h P := by
  refine sw_iload dX10_median_42 rfl ?_
  exact sw_if_eq dX10_median_44 (by decide) (fun q => (sw_fg [false, false, false, false, true, false] rfl (kt q))) (fun q => (sw_fg [false, false, false, false, true, false] rfl (kf q)))
theorem b_X10_median_47 {r0 : Nat} {l1 : Int32} {l2 : Int32} {l3 : Int32} {q0 : Nat} {s1 : Int32} {v4 : Int32} {g4 : ab_H} {fs4 : List Value} (hr4 : (h)[r0]? = some (10, fs4)) (hm4 : MSE m_X10_far d [.ref r0, .int l1, .int l2] h (some (.int v4)) g4) (kt : v4 = (-1) → SW sc m_X10_median (d + 1) rc rs 67 [some (.ref r0), some (.int l1), some (.int l2), some (.int l3), none, none] [.int s1, .ref q0] g4 P) (kf : ¬ (v4 = (-1)) → SW sc m_X10_median (d + 1) rc rs 57 [some (.ref r0), some (.int l1), some (.int l2), some (.int l3), none, none] [.int s1, .ref q0] g4 P) : SW sc m_X10_median (d + 1) rc rs 47 [some (.ref r0), some (.int l1), some (.int l2), some (.int l3), none, none] [.int s1, .ref q0] h P := by
  refine sw_aload_n dX10_median_47 rfl ?_
  refine sw_iload_n dX10_median_48 rfl ?_
  refine sw_iload_n dX10_median_49 rfl ?_
  refine sw_cV dX10_median_50 lv_X10_90 hm4 hr4 rfl (by decide) rfl rfl rfl (Nat.le_of_ble_eq_true rfl) (fun _ _ => rfl) rfl ?_
  show SW sc m_X10_median _ _ _ 53 [some (.ref r0), some (.int l1), some (.int l2), some (.int l3), none, none] [.int v4, .int s1, .ref q0] g4 P
  refine sw_iconst (v := (-1)) dX10_median_53 (by decide) ?_
  exact sw_icmp_eq dX10_median_54 (by decide) (fun q => (kt q)) (fun q => (kf q))
theorem b_X10_median_57 {r0 : Nat} {l1 : Int32} {l2 : Int32} {l3 : Int32} {q0 : Nat} {s1 : Int32} {v4 : Int32} {g4 : ab_H} {fs4 : List Value} (hr4 : (h)[r0]? = some (10, fs4)) (hm4 : MSE m_X10_far d [.ref r0, .int l1, .int l3] h (some (.int v4)) g4) (kt : ¬ v4 = (-1) → SW sc m_X10_median (d + 1) rc rs 71 [some (.ref r0), some (.int l1), some (.int l2), some (.int l3), none, none] [.int s1, .ref q0] g4 P) (kf : v4 = (-1) → SW sc m_X10_median (d + 1) rc rs 67 [some (.ref r0), some (.int l1), some (.int l2), some (.int l3), none, none] [.int s1, .ref q0] g4 P) : SW sc m_X10_median (d + 1) rc rs 57 [some (.ref r0), some (.int l1), some (.int l2), some (.int l3), none, none] [.int s1, .ref q0] h P := by
  refine sw_aload_n dX10_median_57 rfl ?_
  refine sw_iload_n dX10_median_58 rfl ?_
  refine sw_iload_n dX10_median_59 rfl ?_
  refine sw_cV dX10_median_60 lv_X10_90 hm4 hr4 rfl (by decide) rfl rfl rfl (Nat.le_of_ble_eq_true rfl) (fun _ _ => rfl) rfl ?_
  show SW sc m_X10_median _ _ _ 63 [some (.ref r0), some (.int l1), some (.int l2), some (.int l3), none, none] [.int v4, .int s1, .ref q0] g4 P
  refine sw_iconst (v := (-1)) dX10_median_63 (by decide) ?_
  exact sw_icmp_ne dX10_median_64 (by decide) (fun q => (kt q)) (fun q => (kf q))
theorem b_X10_median_67 {r0 : Nat} {l1 : Int32} {l2 : Int32} {l3 : Int32} {q0 : Nat} {s1 : Int32} (k : SW sc m_X10_median d rc rs 72 [some (.ref r0), some (.int l1), some (.int l2), some (.int l3), none, none] [.int 1, .int s1, .ref q0] h P) : SW sc m_X10_median d rc rs 67 [some (.ref r0), some (.int l1), some (.int l2), some (.int l3), none, none] [.int s1, .ref q0] h P := by
  refine sw_iconst (v := 1) dX10_median_67 (by decide) ?_
  exact sw_goto dX10_median_68 (by decide) (k)
theorem b_X10_median_71 {r0 : Nat} {l1 : Int32} {l2 : Int32} {l3 : Int32} {q0 : Nat} {s1 : Int32} (k : SW sc m_X10_median d rc rs 72 [some (.ref r0), some (.int l1), some (.int l2), some (.int l3), none, none] [.int 0, .int s1, .ref q0] h P) : SW sc m_X10_median d rc rs 71 [some (.ref r0), some (.int l1), some (.int l2), some (.int l3), none, none] [.int s1, .ref q0] h P := by
  refine sw_iconst (v := 0) dX10_median_71 (by decide) ?_
  exact (k)
theorem b_X10_median_72 {r0 : Nat} {l1 : Int32} {l2 : Int32} {l3 : Int32} {q0 : Nat} {s1 : Int32} {s2 : Int32} {v1 : Int32} {g1 : ab_H} {fs1 : List Value} (hr1 : (h)[q0]? = some (10, fs1)) (hm1 : MSE m_X10_fails d [.ref q0, .int s1, .int s2] h (some (.int v1)) g1) (kt : v1 = 0 → SW sc m_X10_median (d + 1) rc rs 80 [some (.ref r0), some (.int l1), some (.int l2), some (.int l3), none, none] [] g1 P) (kf : ¬ (v1 = 0) → SW sc m_X10_median (d + 1) rc rs 78 [none, none, none, none, none, none] [] g1 P) : SW sc m_X10_median (d + 1) rc rs 72 [some (.ref r0), some (.int l1), some (.int l2), some (.int l3), none, none] [.int s2, .int s1, .ref q0] h P := by
  refine sw_cV dX10_median_72 lv_X10_286 hm1 hr1 rfl (by decide) rfl rfl rfl (Nat.le_of_ble_eq_true rfl) (fun _ _ => rfl) rfl ?_
  show SW sc m_X10_median _ _ _ 75 [some (.ref r0), some (.int l1), some (.int l2), some (.int l3), none, none] [.int v1] g1 P
  exact sw_if_eq dX10_median_75 (by decide) (fun q => (kt q)) (fun q => (sw_fg [true, true, true, true, false, false] rfl (kf q)))
theorem b_X10_median_78  (hP : P (.inl (some (.int 0))) h) : SW sc m_X10_median d rc rs 78 [none, none, none, none, none, none] [] h P := by
  refine sw_iconst (v := 0) dX10_median_78 (by decide) ?_
  exact sw_ret (v := (some (.int 0))) dX10_median_79 rt_i hP
theorem b_X10_median_80 {r0 : Nat} {l1 : Int32} {l2 : Int32} {l3 : Int32} (k : SW sc m_X10_median d rc rs 83 [some (.ref r0), some (.int l1), some (.int l2), some (.int l3), none, some (.int 0)] [] h P) : SW sc m_X10_median d rc rs 80 [some (.ref r0), some (.int l1), some (.int l2), some (.int l3), none, none] [] h P := by
  refine sw_iconst (v := 0) dX10_median_80 (by decide) ?_
  refine sw_istore dX10_median_81 (by decide) rfl ?_
  show SW sc m_X10_median _ _ _ 83 [some (.ref r0), some (.int l1), some (.int l2), some (.int l3), none, some (.int 0)] [] h P
  exact (k)
theorem b_X10_median_83 {r0 : Nat} {l1 : Int32} {l2 : Int32} {l3 : Int32} {l5 : Int32} {v5 : Int32} {g5 : ab_H} {fs5 : List Value} (hr5 : (h)[r0]? = some (10, fs5)) (hm5 : MSE m_X10_isBetween d [.ref r0, .int l5, .int l1, .int l2] h (some (.int v5)) g5) (kt : v5 = 0 → SW sc m_X10_median (d + 1) rc rs 116 [some (.ref r0), some (.int l1), some (.int l2), some (.int l3), none, some (.int l5)] [] g5 P) (kf : ¬ (v5 = 0) → SW sc m_X10_median (d + 1) rc rs 94 [some (.ref r0), some (.int l1), some (.int l2), some (.int l3), none, some (.int l5)] [] g5 P) : SW sc m_X10_median (d + 1) rc rs 83 [some (.ref r0), some (.int l1), some (.int l2), some (.int l3), none, some (.int l5)] [] h P := by
  refine sw_aload_n dX10_median_83 rfl ?_
  refine sw_iload dX10_median_84 rfl ?_
  refine sw_iload_n dX10_median_86 rfl ?_
  refine sw_iload_n dX10_median_87 rfl ?_
  refine sw_cV dX10_median_88 lv_X10_301 hm5 hr5 rfl (by decide) rfl rfl rfl (Nat.le_of_ble_eq_true rfl) (fun _ _ => rfl) rfl ?_
  show SW sc m_X10_median _ _ _ 91 [some (.ref r0), some (.int l1), some (.int l2), some (.int l3), none, some (.int l5)] [.int v5] g5 P
  exact sw_if_eq dX10_median_91 (by decide) (fun q => (kt q)) (fun q => (kf q))
theorem b_X10_median_94 {r0 : Nat} {l1 : Int32} {l2 : Int32} {l3 : Int32} {l5 : Int32} {v5 : Int32} {g5 : ab_H} {fs5 : List Value} (hr5 : (h)[r0]? = some (10, fs5)) (hm5 : MSE m_X10_isBetween d [.ref r0, .int l5, .int l1, .int l3] h (some (.int v5)) g5) (kt : v5 = 0 → SW sc m_X10_median (d + 1) rc rs 116 [some (.ref r0), some (.int l1), some (.int l2), some (.int l3), none, some (.int l5)] [] g5 P) (kf : ¬ (v5 = 0) → SW sc m_X10_median (d + 1) rc rs 105 [some (.ref r0), some (.int l1), some (.int l2), some (.int l3), none, some (.int l5)] [] g5 P) : SW sc m_X10_median (d + 1) rc rs 94 [some (.ref r0), some (.int l1), some (.int l2), some (.int l3), none, some (.int l5)] [] h P := by
  refine sw_aload_n dX10_median_94 rfl ?_
  refine sw_iload dX10_median_95 rfl ?_
  refine sw_iload_n dX10_median_97 rfl ?_
  refine sw_iload_n dX10_median_98 rfl ?_
  refine sw_cV dX10_median_99 lv_X10_301 hm5 hr5 rfl (by decide) rfl rfl rfl (Nat.le_of_ble_eq_true rfl) (fun _ _ => rfl) rfl ?_
  show SW sc m_X10_median _ _ _ 102 [some (.ref r0), some (.int l1), some (.int l2), some (.int l3), none, some (.int l5)] [.int v5] g5 P
  exact sw_if_eq dX10_median_102 (by decide) (fun q => (kt q)) (fun q => (kf q))
theorem b_X10_median_105 {r0 : Nat} {l1 : Int32} {l2 : Int32} {l3 : Int32} {l5 : Int32} {v5 : Int32} {g5 : ab_H} {fs5 : List Value} (hr5 : (h)[r0]? = some (10, fs5)) (hm5 : MSE m_X10_isBetween d [.ref r0, .int l5, .int l2, .int l3] h (some (.int v5)) g5) (kt : ¬ v5 = 0 → SW sc m_X10_median (d + 1) rc rs 122 [none, none, none, none, none, some (.int l5)] [] g5 P) (kf : v5 = 0 → SW sc m_X10_median (d + 1) rc rs 116 [some (.ref r0), some (.int l1), some (.int l2), some (.int l3), none, some (.int l5)] [] g5 P) : SW sc m_X10_median (d + 1) rc rs 105 [some (.ref r0), some (.int l1), some (.int l2), some (.int l3), none, some (.int l5)] [] h P := by
  refine sw_aload_n dX10_median_105 rfl ?_
  refine sw_iload dX10_median_106 rfl ?_
  refine sw_iload_n dX10_median_108 rfl ?_
  refine sw_iload_n dX10_median_109 rfl ?_
  refine sw_cV dX10_median_110 lv_X10_301 hm5 hr5 rfl (by decide) rfl rfl rfl (Nat.le_of_ble_eq_true rfl) (fun _ _ => rfl) rfl ?_
  show SW sc m_X10_median _ _ _ 113 [some (.ref r0), some (.int l1), some (.int l2), some (.int l3), none, some (.int l5)] [.int v5] g5 P
  exact sw_if_ne dX10_median_113 (by decide) (fun q => (sw_fg [true, true, true, true, false, false] rfl (kt q))) (fun q => (kf q))
theorem b_X10_median_116 {r0 : Nat} {l1 : Int32} {l2 : Int32} {l3 : Int32} {l5 : Int32} (k : SW sc m_X10_median d rc rs 83 [some (.ref r0), some (.int l1), some (.int l2), some (.int l3), none, some (.int (l5 + 1))] [] h P) : SW sc m_X10_median d rc rs 116 [some (.ref r0), some (.int l1), some (.int l2), some (.int l3), none, some (.int l5)] [] h P := by
  refine sw_iinc (v := l5 + 1) dX10_median_116 rfl rfl (by decide) rfl ?_
  show SW sc m_X10_median _ _ _ 119 [some (.ref r0), some (.int l1), some (.int l2), some (.int l3), none, some (.int (l5 + 1))] [] h P
  exact sw_goto dX10_median_119 (by decide) (k)
theorem b_X10_median_122 {l5 : Int32} (hP : P (.inl (some (.int l5))) h) : SW sc m_X10_median d rc rs 122 [none, none, none, none, none, some (.int l5)] [] h P := by
  refine sw_iload dX10_median_122 rfl ?_
  exact sw_ret (v := (some (.int l5))) dX10_median_124 rt_i hP
theorem b_X10_meanDistance_0 {r0 : Nat} {l1 : Int32} {v4 : Int32} {g4 : ab_H} {fs4 : List Value} (hr4 : (h)[r0]? = some (10, fs4)) (hm4 : MSE m_X10_isVertex d [.ref r0, .int l1] h (some (.int v4)) g4) (kt : ¬ v4 = 0 → SW sc m_X10_meanDistance (d + 1) rc rs 13 [some (.ref r0), some (.int l1), none, none, none] [.ref r0] g4 P) (kf : v4 = 0 → SW sc m_X10_meanDistance (d + 1) rc rs 9 [some (.ref r0), some (.int l1), none, none, none] [.ref r0] g4 P) : SW sc m_X10_meanDistance (d + 1) rc rs 0 [some (.ref r0), some (.int l1), none, none, none] [] h P := by
  refine sw_aload_n dX10_meanDistance_0 rfl ?_
  refine sw_aload_n dX10_meanDistance_1 rfl ?_
  refine sw_iload_n dX10_meanDistance_2 rfl ?_
  refine sw_cV dX10_meanDistance_3 lv_X10_283 hm4 hr4 rfl (by decide) rfl rfl rfl (Nat.le_of_ble_eq_true rfl) (fun _ _ => rfl) rfl ?_
  show SW sc m_X10_meanDistance _ _ _ 6 [some (.ref r0), some (.int l1), none, none, none] [.int v4, .ref r0] g4 P
  exact sw_if_ne dX10_meanDistance_6 (by decide) (fun q => (kt q)) (fun q => (kf q))
theorem b_X10_meanDistance_9 {r0 : Nat} {l1 : Int32} {q0 : Nat} (k : SW sc m_X10_meanDistance d rc rs 14 [some (.ref r0), some (.int l1), none, none, none] [.int 1, .ref q0] h P) : SW sc m_X10_meanDistance d rc rs 9 [some (.ref r0), some (.int l1), none, none, none] [.ref q0] h P := by
  refine sw_iconst (v := 1) dX10_meanDistance_9 (by decide) ?_
  exact sw_goto dX10_meanDistance_10 (by decide) (k)
theorem b_X10_meanDistance_13 {r0 : Nat} {l1 : Int32} {q0 : Nat} (k : SW sc m_X10_meanDistance d rc rs 14 [some (.ref r0), some (.int l1), none, none, none] [.int 0, .ref q0] h P) : SW sc m_X10_meanDistance d rc rs 13 [some (.ref r0), some (.int l1), none, none, none] [.ref q0] h P := by
  refine sw_iconst (v := 0) dX10_meanDistance_13 (by decide) ?_
  exact (k)
theorem b_X10_meanDistance_14 {r0 : Nat} {l1 : Int32} {q0 : Nat} {s1 : Int32} {v2 : Int32} {g2 : ab_H} {fs2 : List Value} (hr2 : (h)[q0]? = some (10, fs2)) (hm2 : MSE m_X10_fails d [.ref q0, .int s1, .int 0] h (some (.int v2)) g2) (kt : v2 = 0 → SW sc m_X10_meanDistance (d + 1) rc rs 23 [some (.ref r0), some (.int l1), none, none, none] [] g2 P) (kf : ¬ (v2 = 0) → SW sc m_X10_meanDistance (d + 1) rc rs 21 [none, none, none, none, none] [] g2 P) : SW sc m_X10_meanDistance (d + 1) rc rs 14 [some (.ref r0), some (.int l1), none, none, none] [.int s1, .ref q0] h P := by
  refine sw_iconst (v := 0) dX10_meanDistance_14 (by decide) ?_
  refine sw_cV dX10_meanDistance_15 lv_X10_286 hm2 hr2 rfl (by decide) rfl rfl rfl (Nat.le_of_ble_eq_true rfl) (fun _ _ => rfl) rfl ?_
  show SW sc m_X10_meanDistance _ _ _ 18 [some (.ref r0), some (.int l1), none, none, none] [.int v2] g2 P
  exact sw_if_eq dX10_meanDistance_18 (by decide) (fun q => (kt q)) (fun q => (sw_fg [true, true, false, false, false] rfl (kf q)))
theorem b_X10_meanDistance_21  (hP : P (.inl (some (.double 0))) h) : SW sc m_X10_meanDistance d rc rs 21 [none, none, none, none, none] [] h P := by
  refine sw_dconst0 dX10_meanDistance_21 ?_
  exact sw_ret (v := (some (.double 0))) dX10_meanDistance_22 rt_d hP
theorem b_X10_meanDistance_23 {r0 : Nat} {l1 : Int32} {v3 : Int32} {g3 : ab_H} {fs3 : List Value} (hr3 : (h)[r0]? = some (10, fs3)) (hm3 : MSE m_X10_component d [.ref r0, .int l1] h (some (.int v3)) g3) (k : SW sc m_X10_meanDistance (d + 1) rc rs 34 [some (.ref r0), some (.int l1), some (.int v3), some (.int 0), some (.int 0)] [] g3 P) : SW sc m_X10_meanDistance (d + 1) rc rs 23 [some (.ref r0), some (.int l1), none, none, none] [] h P := by
  refine sw_aload_n dX10_meanDistance_23 rfl ?_
  refine sw_iload_n dX10_meanDistance_24 rfl ?_
  refine sw_cV dX10_meanDistance_25 lv_X10_84 hm3 hr3 rfl (by decide) rfl rfl rfl (Nat.le_of_ble_eq_true rfl) (fun _ _ => rfl) rfl ?_
  show SW sc m_X10_meanDistance _ _ _ 28 [some (.ref r0), some (.int l1), none, none, none] [.int v3] g3 P
  refine sw_istore_n dX10_meanDistance_28 (by decide) rfl ?_
  show SW sc m_X10_meanDistance _ _ _ 29 [some (.ref r0), some (.int l1), some (.int v3), none, none] [] g3 P
  refine sw_iconst (v := 0) dX10_meanDistance_29 (by decide) ?_
  refine sw_istore_n dX10_meanDistance_30 (by decide) rfl ?_
  show SW sc m_X10_meanDistance _ _ _ 31 [some (.ref r0), some (.int l1), some (.int v3), some (.int 0), none] [] g3 P
  refine sw_iconst (v := 0) dX10_meanDistance_31 (by decide) ?_
  refine sw_istore dX10_meanDistance_32 (by decide) rfl ?_
  show SW sc m_X10_meanDistance _ _ _ 34 [some (.ref r0), some (.int l1), some (.int v3), some (.int 0), some (.int 0)] [] g3 P
  exact (k)
theorem b_X10_meanDistance_34 {r0 : Nat} {l1 : Int32} {l2 : Int32} {l3 : Int32} {l4 : Int32} {fs3 : List Value} {x3 : Int32} (hc3 : (h)[r0]? = some (10, fs3)) (hv3 : fs3[6]? = some (.int x3)) (kt : x3 ≤ l4 → SW sc m_X10_meanDistance d rc rs 72 [none, none, some (.int l2), some (.int l3), none] [] h P) (kf : ¬ (x3 ≤ l4) → SW sc m_X10_meanDistance d rc rs 43 [some (.ref r0), some (.int l1), some (.int l2), some (.int l3), some (.int l4)] [] h P) : SW sc m_X10_meanDistance d rc rs 34 [some (.ref r0), some (.int l1), some (.int l2), some (.int l3), some (.int l4)] [] h P := by
  refine sw_iload dX10_meanDistance_34 rfl ?_
  refine sw_aload_n dX10_meanDistance_36 rfl ?_
  refine sw_getf dX10_meanDistance_37 lf_X10_35 hc3 hv3 ?_
  exact sw_icmp_ge dX10_meanDistance_40 (by decide) (fun q => (sw_fg [true, true, false, false, true] rfl (kt q))) (fun q => (kf q))
theorem b_X10_meanDistance_43 {r0 : Nat} {l1 : Int32} {l2 : Int32} {l3 : Int32} {l4 : Int32} {v4 : Int32} {g4 : ab_H} (hm4 : MSE m_X10_has d [.int l2, .int l4] h (some (.int v4)) g4) (kt : v4 = 0 → SW sc m_X10_meanDistance (d + 1) rc rs 63 [some (.ref r0), some (.int l1), some (.int l2), none, some (.int l4)] [.int l3] g4 P) (kf : ¬ (v4 = 0) → SW sc m_X10_meanDistance (d + 1) rc rs 53 [some (.ref r0), some (.int l1), some (.int l2), none, some (.int l4)] [.int l3] g4 P) : SW sc m_X10_meanDistance (d + 1) rc rs 43 [some (.ref r0), some (.int l1), some (.int l2), some (.int l3), some (.int l4)] [] h P := by
  refine sw_iload_n dX10_meanDistance_43 rfl ?_
  refine sw_iload_n dX10_meanDistance_44 rfl ?_
  refine sw_iload dX10_meanDistance_45 rfl ?_
  refine sw_cS dX10_meanDistance_47 ls_X10_70 hm4 rfl rfl (Nat.le_of_ble_eq_true rfl) (fun _ _ => rfl) rfl ?_
  show SW sc m_X10_meanDistance _ _ _ 50 [some (.ref r0), some (.int l1), some (.int l2), some (.int l3), some (.int l4)] [.int v4, .int l3] g4 P
  exact sw_if_eq dX10_meanDistance_50 (by decide) (fun q => (sw_fg [false, false, false, true, false] rfl (kt q))) (fun q => (sw_fg [false, false, false, true, false] rfl (kf q)))
theorem b_X10_meanDistance_53 {r0 : Nat} {l1 : Int32} {l2 : Int32} {l4 : Int32} {s0 : Int32} {v4 : Int32} {g4 : ab_H} {fs4 : List Value} (hr4 : (h)[r0]? = some (10, fs4)) (hm4 : MSE m_X10_far d [.ref r0, .int l1, .int l4] h (some (.int v4)) g4) (k : SW sc m_X10_meanDistance (d + 1) rc rs 64 [some (.ref r0), some (.int l1), some (.int l2), none, some (.int l4)] [.int v4, .int s0] g4 P) : SW sc m_X10_meanDistance (d + 1) rc rs 53 [some (.ref r0), some (.int l1), some (.int l2), none, some (.int l4)] [.int s0] h P := by
  refine sw_aload_n dX10_meanDistance_53 rfl ?_
  refine sw_iload_n dX10_meanDistance_54 rfl ?_
  refine sw_iload dX10_meanDistance_55 rfl ?_
  refine sw_cV dX10_meanDistance_57 lv_X10_90 hm4 hr4 rfl (by decide) rfl rfl rfl (Nat.le_of_ble_eq_true rfl) (fun _ _ => rfl) rfl ?_
  show SW sc m_X10_meanDistance _ _ _ 60 [some (.ref r0), some (.int l1), some (.int l2), none, some (.int l4)] [.int v4, .int s0] g4 P
  exact sw_goto dX10_meanDistance_60 (by decide) (k)
theorem b_X10_meanDistance_63 {r0 : Nat} {l1 : Int32} {l2 : Int32} {l4 : Int32} {s0 : Int32} (k : SW sc m_X10_meanDistance d rc rs 64 [some (.ref r0), some (.int l1), some (.int l2), none, some (.int l4)] [.int 0, .int s0] h P) : SW sc m_X10_meanDistance d rc rs 63 [some (.ref r0), some (.int l1), some (.int l2), none, some (.int l4)] [.int s0] h P := by
  refine sw_iconst (v := 0) dX10_meanDistance_63 (by decide) ?_
  exact (k)
theorem b_X10_meanDistance_64 {r0 : Nat} {l1 : Int32} {l2 : Int32} {l4 : Int32} {s0 : Int32} {s1 : Int32} (k : SW sc m_X10_meanDistance d rc rs 34 [some (.ref r0), some (.int l1), some (.int l2), some (.int (s0 + s1)), some (.int (l4 + 1))] [] h P) : SW sc m_X10_meanDistance d rc rs 64 [some (.ref r0), some (.int l1), some (.int l2), none, some (.int l4)] [.int s1, .int s0] h P := by
  refine sw_iadd dX10_meanDistance_64 ?_
  refine sw_istore_n dX10_meanDistance_65 (by decide) rfl ?_
  show SW sc m_X10_meanDistance _ _ _ 66 [some (.ref r0), some (.int l1), some (.int l2), some (.int (s0 + s1)), some (.int l4)] [] h P
  refine sw_iinc (v := l4 + 1) dX10_meanDistance_66 rfl rfl (by decide) rfl ?_
  show SW sc m_X10_meanDistance _ _ _ 69 [some (.ref r0), some (.int l1), some (.int l2), some (.int (s0 + s1)), some (.int (l4 + 1))] [] h P
  exact sw_goto dX10_meanDistance_69 (by decide) (k)
theorem b_X10_meanDistance_72 {l2 : Int32} {l3 : Int32} {v4 : Int32} {g4 : ab_H} (hm4 : MSE m_X10_ones d [.int l2] h (some (.int v4)) g4) (hz6 : vf_n64 (FP.ddiv (FP.i2d l3) (FP.i2d v4))) (hP : P (.inl (some (.double (FP.ddiv (FP.i2d l3) (FP.i2d v4))))) g4) : SW sc m_X10_meanDistance (d + 1) rc rs 72 [none, none, some (.int l2), some (.int l3), none] [] h P := by
  refine sw_iload_n dX10_meanDistance_72 rfl ?_
  refine sw_i2d dX10_meanDistance_73 ?_
  refine sw_iload_n dX10_meanDistance_74 rfl ?_
  refine sw_cS dX10_meanDistance_75 ls_X10_111 hm4 rfl rfl (Nat.le_of_ble_eq_true rfl) (fun _ _ => rfl) rfl ?_
  show SW sc m_X10_meanDistance _ _ _ 78 [none, none, some (.int l2), some (.int l3), none] [.int v4, .double (FP.i2d l3)] g4 P
  refine sw_i2d dX10_meanDistance_78 ?_
  refine sw_ddiv dX10_meanDistance_79 hz6 ?_
  exact sw_ret (v := (some (.double (FP.ddiv (FP.i2d l3) (FP.i2d v4))))) dX10_meanDistance_80 rt_d hP
theorem b_X10_balance_0 {r0 : Nat} {l1 : Int32} {v4 : Int32} {g4 : ab_H} {fs4 : List Value} (hr4 : (h)[r0]? = some (10, fs4)) (hm4 : MSE m_X10_isVertex d [.ref r0, .int l1] h (some (.int v4)) g4) (kt : ¬ v4 = 0 → SW sc m_X10_balance (d + 1) rc rs 13 [some (.ref r0), some (.int l1)] [.ref r0] g4 P) (kf : v4 = 0 → SW sc m_X10_balance (d + 1) rc rs 9 [some (.ref r0), some (.int l1)] [.ref r0] g4 P) : SW sc m_X10_balance (d + 1) rc rs 0 [some (.ref r0), some (.int l1)] [] h P := by
  refine sw_aload_n dX10_balance_0 rfl ?_
  refine sw_aload_n dX10_balance_1 rfl ?_
  refine sw_iload_n dX10_balance_2 rfl ?_
  refine sw_cV dX10_balance_3 lv_X10_283 hm4 hr4 rfl (by decide) rfl rfl rfl (Nat.le_of_ble_eq_true rfl) (fun _ _ => rfl) rfl ?_
  show SW sc m_X10_balance _ _ _ 6 [some (.ref r0), some (.int l1)] [.int v4, .ref r0] g4 P
  exact sw_if_ne dX10_balance_6 (by decide) (fun q => (kt q)) (fun q => (kf q))
theorem b_X10_balance_9 {r0 : Nat} {l1 : Int32} {q0 : Nat} (k : SW sc m_X10_balance d rc rs 14 [some (.ref r0), some (.int l1)] [.int 1, .ref q0] h P) : SW sc m_X10_balance d rc rs 9 [some (.ref r0), some (.int l1)] [.ref q0] h P := by
  refine sw_iconst (v := 1) dX10_balance_9 (by decide) ?_
  exact sw_goto dX10_balance_10 (by decide) (k)
theorem b_X10_balance_13 {r0 : Nat} {l1 : Int32} {q0 : Nat} (k : SW sc m_X10_balance d rc rs 14 [some (.ref r0), some (.int l1)] [.int 0, .ref q0] h P) : SW sc m_X10_balance d rc rs 13 [some (.ref r0), some (.int l1)] [.ref q0] h P := by
  refine sw_iconst (v := 0) dX10_balance_13 (by decide) ?_
  exact (k)
theorem b_X10_balance_14 {r0 : Nat} {l1 : Int32} {q0 : Nat} {s1 : Int32} {v2 : Int32} {g2 : ab_H} {fs2 : List Value} (hr2 : (h)[q0]? = some (10, fs2)) (hm2 : MSE m_X10_fails d [.ref q0, .int s1, .int 0] h (some (.int v2)) g2) (kt : v2 = 0 → SW sc m_X10_balance (d + 1) rc rs 23 [some (.ref r0), some (.int l1)] [] g2 P) (kf : ¬ (v2 = 0) → SW sc m_X10_balance (d + 1) rc rs 21 [none, none] [] g2 P) : SW sc m_X10_balance (d + 1) rc rs 14 [some (.ref r0), some (.int l1)] [.int s1, .ref q0] h P := by
  refine sw_iconst (v := 0) dX10_balance_14 (by decide) ?_
  refine sw_cV dX10_balance_15 lv_X10_286 hm2 hr2 rfl (by decide) rfl rfl rfl (Nat.le_of_ble_eq_true rfl) (fun _ _ => rfl) rfl ?_
  show SW sc m_X10_balance _ _ _ 18 [some (.ref r0), some (.int l1)] [.int v2] g2 P
  exact sw_if_eq dX10_balance_18 (by decide) (fun q => (kt q)) (fun q => (sw_fg [true, true] rfl (kf q)))
theorem b_X10_balance_21  (hP : P (.inl (some (.float 0))) h) : SW sc m_X10_balance d rc rs 21 [none, none] [] h P := by
  refine sw_fconst0 dX10_balance_21 ?_
  exact sw_ret (v := (some (.float 0))) dX10_balance_22 rt_f hP
theorem b_X10_balance_23 {r0 : Nat} {l1 : Int32} {v4 : Int32} {g4 : ab_H} {fs4 : List Value} {v8 : Int32} {g8 : ab_H} {fs8 : List Value} {v9 : Int32} {g9 : ab_H} (hr4 : (h)[r0]? = some (10, fs4)) (hm4 : MSE m_X10_greatestPart d [.ref r0, .int l1, .int 0] h (some (.int v4)) g4) (hr8 : (g4)[r0]? = some (10, fs8)) (hm8 : MSE m_X10_component d [.ref r0, .int l1] g4 (some (.int v8)) g8) (hm9 : MSE m_X10_ones d [.int v8] g8 (some (.int v9)) g9) (hz11 : vf_n32 (FP.fdiv (FP.i2f v4) (FP.i2f v9))) (hP : P (.inl (some (.float (FP.fdiv (FP.i2f v4) (FP.i2f v9))))) g9) : SW sc m_X10_balance (d + 1) rc rs 23 [some (.ref r0), some (.int l1)] [] h P := by
  refine sw_aload_n dX10_balance_23 rfl ?_
  refine sw_iload_n dX10_balance_24 rfl ?_
  refine sw_iconst (v := 0) dX10_balance_25 (by decide) ?_
  refine sw_cV dX10_balance_26 lv_X10_105 hm4 hr4 rfl (by decide) rfl rfl rfl (Nat.le_of_ble_eq_true rfl) (fun _ _ => rfl) rfl ?_
  show SW sc m_X10_balance _ _ _ 29 [some (.ref r0), some (.int l1)] [.int v4] g4 P
  refine sw_i2f dX10_balance_29 ?_
  refine sw_aload_n dX10_balance_30 rfl ?_
  refine sw_iload_n dX10_balance_31 rfl ?_
  refine sw_cV dX10_balance_32 lv_X10_84 hm8 hr8 rfl (by decide) rfl rfl rfl (Nat.le_of_ble_eq_true rfl) (fun _ _ => rfl) rfl ?_
  show SW sc m_X10_balance _ _ _ 35 [some (.ref r0), some (.int l1)] [.int v8, .float (FP.i2f v4)] g8 P
  refine sw_cS dX10_balance_35 ls_X10_111 hm9 rfl rfl (Nat.le_of_ble_eq_true rfl) (fun _ _ => rfl) rfl ?_
  show SW sc m_X10_balance _ _ _ 38 [some (.ref r0), some (.int l1)] [.int v9, .float (FP.i2f v4)] g9 P
  refine sw_i2f dX10_balance_38 ?_
  refine sw_fdiv dX10_balance_39 hz11 ?_
  exact sw_ret (v := (some (.float (FP.fdiv (FP.i2f v4) (FP.i2f v9))))) dX10_balance_40 rt_f hP
theorem b_X10_isTree_0 {r0 : Nat} {v3 : Int32} {g3 : ab_H} {fs3 : List Value} {fs6 : List Value} {x6 : Int32} (hr3 : (h)[r0]? = some (10, fs3)) (hm3 : MSE m_X10_component d [.ref r0, .int 0] h (some (.int v3)) g3) (hc6 : (g3)[r0]? = some (10, fs6)) (hv6 : fs6[6]? = some (.int x6)) (kt : ¬ v3 = ((1 <<< (x6 &&& 31)) - 1) → SW sc m_X10_isTree (d + 1) rc rs 20 [none] [] g3 P) (kf : v3 = ((1 <<< (x6 &&& 31)) - 1) → SW sc m_X10_isTree (d + 1) rc rs 16 [none] [] g3 P) : SW sc m_X10_isTree (d + 1) rc rs 0 [some (.ref r0)] [] h P := by
  refine sw_aload_n dX10_isTree_0 rfl ?_
  refine sw_iconst (v := 0) dX10_isTree_1 (by decide) ?_
  refine sw_cV dX10_isTree_2 lv_X10_84 hm3 hr3 rfl (by decide) rfl rfl rfl (Nat.le_of_ble_eq_true rfl) (fun _ _ => rfl) rfl ?_
  show SW sc m_X10_isTree _ _ _ 5 [some (.ref r0)] [.int v3] g3 P
  refine sw_iconst (v := 1) dX10_isTree_5 (by decide) ?_
  refine sw_aload_n dX10_isTree_6 rfl ?_
  refine sw_getf dX10_isTree_7 lf_X10_35 hc6 hv6 ?_
  refine sw_ishl dX10_isTree_10 ?_
  refine sw_iconst (v := 1) dX10_isTree_11 (by decide) ?_
  refine sw_isub dX10_isTree_12 ?_
  exact sw_icmp_ne dX10_isTree_13 (by decide) (fun q => (sw_fg [true] rfl (kt q))) (fun q => (sw_fg [true] rfl (kf q)))
theorem b_X10_isTree_16  (k : SW sc m_X10_isTree d rc rs 21 [none] [.int 1] h P) : SW sc m_X10_isTree d rc rs 16 [none] [] h P := by
  refine sw_iconst (v := 1) dX10_isTree_16 (by decide) ?_
  exact sw_goto dX10_isTree_17 (by decide) (k)
theorem b_X10_isTree_20  (k : SW sc m_X10_isTree d rc rs 21 [none] [.int 0] h P) : SW sc m_X10_isTree d rc rs 20 [none] [] h P := by
  refine sw_iconst (v := 0) dX10_isTree_20 (by decide) ?_
  exact (k)
theorem b_X10_isTree_21 {s0 : Int32} (hz1 : narrow .boolean (.int s0) = .int s0) (hP : P (.inl (some (.int s0))) h) : SW sc m_X10_isTree d rc rs 21 [none] [.int s0] h P := by
  exact sw_ret (v := (some (.int s0))) dX10_isTree_21 (rt_n hz1) hP
theorem b_X10_laysCode_0 {r0 : Nat} {g2 : ab_H} {fs2 : List Value} (hr2 : (h)[r0]? = some (10, fs2)) (hm2 : MSE m_X10_layOther d [.ref r0] h none g2) (k : SW sc m_X10_laysCode (d + 1) rc rs 6 [some (.ref r0), some (.int 0), none] [] g2 P) : SW sc m_X10_laysCode (d + 1) rc rs 0 [some (.ref r0), none, none] [] h P := by
  refine sw_aload_n dX10_laysCode_0 rfl ?_
  refine sw_cV dX10_laysCode_1 lv_X10_277 hm2 hr2 rfl (by decide) rfl rfl rfl (Nat.le_of_ble_eq_true rfl) (fun _ _ => rfl) rfl ?_
  show SW sc m_X10_laysCode _ _ _ 4 [some (.ref r0), none, none] [] g2 P
  refine sw_iconst (v := 0) dX10_laysCode_4 (by decide) ?_
  refine sw_istore_n dX10_laysCode_5 (by decide) rfl ?_
  show SW sc m_X10_laysCode _ _ _ 6 [some (.ref r0), some (.int 0), none] [] g2 P
  exact (k)
theorem b_X10_laysCode_6 {r0 : Nat} {l1 : Int32} {fs3 : List Value} {x3 : Int32} {v4 : Int32} {g4 : ab_H} (hc3 : (h)[r0]? = some (10, fs3)) (hv3 : fs3[6]? = some (.int x3)) (hm4 : MSE m_X10_codeMany d [.int x3] h (some (.int v4)) g4) (kt : v4 ≤ l1 → SW sc m_X10_laysCode (d + 1) rc rs 73 [none, none, none] [] g4 P) (kf : ¬ (v4 ≤ l1) → SW sc m_X10_laysCode (d + 1) rc rs 17 [some (.ref r0), some (.int l1), none] [] g4 P) : SW sc m_X10_laysCode (d + 1) rc rs 6 [some (.ref r0), some (.int l1), none] [] h P := by
  refine sw_iload_n dX10_laysCode_6 rfl ?_
  refine sw_aload_n dX10_laysCode_7 rfl ?_
  refine sw_getf dX10_laysCode_8 lf_X10_35 hc3 hv3 ?_
  refine sw_cS dX10_laysCode_11 ls_X10_215 hm4 rfl rfl (Nat.le_of_ble_eq_true rfl) (fun _ _ => rfl) rfl ?_
  show SW sc m_X10_laysCode _ _ _ 14 [some (.ref r0), some (.int l1), none] [.int v4, .int l1] g4 P
  exact sw_icmp_ge dX10_laysCode_14 (by decide) (fun q => (sw_fg [true, true, false] rfl (kt q))) (fun q => (kf q))
theorem b_X10_laysCode_17 {r0 : Nat} {l1 : Int32} (k : SW sc m_X10_laysCode d rc rs 19 [some (.ref r0), some (.int l1), some (.int 0)] [] h P) : SW sc m_X10_laysCode d rc rs 17 [some (.ref r0), some (.int l1), none] [] h P := by
  refine sw_iconst (v := 0) dX10_laysCode_17 (by decide) ?_
  refine sw_istore_n dX10_laysCode_18 (by decide) rfl ?_
  show SW sc m_X10_laysCode _ _ _ 19 [some (.ref r0), some (.int l1), some (.int 0)] [] h P
  exact (k)
theorem b_X10_laysCode_19 {r0 : Nat} {l1 : Int32} {l2 : Int32} {fs2 : List Value} {a2 : Nat} {vs4 : List Value} {x4 : Int32} {v5 : Int32} {g5 : ab_H} (hc2 : (h)[r0]? = some (10, fs2)) (hv2 : fs2[2]? = some (.ref a2)) (hc4 : (h)[a2]? = some (100, vs4)) (ho4 : ¬ l2 < 0) (hi4 : vs4[l2.toNatClampNeg]? = some (.int x4)) (hm5 : MSE m_X10_ones d [.int x4] h (some (.int v5)) g5) (kt : v5 = 1 → SW sc m_X10_laysCode (d + 1) rc rs 38 [some (.ref r0), some (.int l1), some (.int l2)] [] g5 P) (kf : ¬ (v5 = 1) → SW sc m_X10_laysCode (d + 1) rc rs 32 [some (.ref r0), some (.int l1), some (.int l2)] [] g5 P) : SW sc m_X10_laysCode (d + 1) rc rs 19 [some (.ref r0), some (.int l1), some (.int l2)] [] h P := by
  refine sw_aload_n dX10_laysCode_19 rfl ?_
  refine sw_getf dX10_laysCode_20 lf_X10_23 hc2 hv2 ?_
  refine sw_iload_n dX10_laysCode_23 rfl ?_
  refine sw_iald dX10_laysCode_24 hc4 ho4 hi4 ?_
  refine sw_cS dX10_laysCode_25 ls_X10_111 hm5 rfl rfl (Nat.le_of_ble_eq_true rfl) (fun _ _ => rfl) rfl ?_
  show SW sc m_X10_laysCode _ _ _ 28 [some (.ref r0), some (.int l1), some (.int l2)] [.int v5] g5 P
  refine sw_iconst (v := 1) dX10_laysCode_28 (by decide) ?_
  exact sw_icmp_eq dX10_laysCode_29 (by decide) (fun q => (kt q)) (fun q => (kf q))
theorem b_X10_laysCode_32 {r0 : Nat} {l1 : Int32} {l2 : Int32} (k : SW sc m_X10_laysCode d rc rs 19 [some (.ref r0), some (.int l1), some (.int (l2 + 1))] [] h P) : SW sc m_X10_laysCode d rc rs 32 [some (.ref r0), some (.int l1), some (.int l2)] [] h P := by
  refine sw_iinc (v := l2 + 1) dX10_laysCode_32 rfl rfl (by decide) rfl ?_
  show SW sc m_X10_laysCode _ _ _ 35 [some (.ref r0), some (.int l1), some (.int (l2 + 1))] [] h P
  exact sw_goto dX10_laysCode_35 (by decide) (k)
theorem b_X10_laysCode_38 {r0 : Nat} {l1 : Int32} {l2 : Int32} {fs2 : List Value} {a2 : Nat} {fs5 : List Value} {a5 : Nat} {vs7 : List Value} {x7 : Int32} {v8 : Int32} {g8 : ab_H} {vs9 : List Value} {fs11 : List Value} {a11 : Nat} {fs14 : List Value} {a14 : Nat} {vs16 : List Value} {x16 : Int32} {g17 : ab_H} (hc2 : (h)[r0]? = some (10, fs2)) (hv2 : fs2[22]? = some (.ref a2)) (hc5 : (h)[r0]? = some (10, fs5)) (hv5 : fs5[2]? = some (.ref a5)) (hc7 : (h)[a5]? = some (100, vs7)) (ho7 : ¬ l2 < 0) (hi7 : vs7[l2.toNatClampNeg]? = some (.int x7)) (hm8 : MSE m_X10_lowest d [.int x7] h (some (.int v8)) g8) (hc9 : (g8)[a2]? = some (100, vs9)) (ho9 : ¬ l1 < 0) (hl9 : l1.toNatClampNeg < vs9.length) (hc11 : ((g8).set a2 (100, vs9.set l1.toNatClampNeg (.int v8)))[r0]? = some (10, fs11)) (hv11 : fs11[2]? = some (.ref a11)) (hc14 : ((g8).set a2 (100, vs9.set l1.toNatClampNeg (.int v8)))[r0]? = some (10, fs14)) (hv14 : fs14[22]? = some (.ref a14)) (hc16 : ((g8).set a2 (100, vs9.set l1.toNatClampNeg (.int v8)))[a14]? = some (100, vs16)) (ho16 : ¬ l1 < 0) (hi16 : vs16[l1.toNatClampNeg]? = some (.int x16)) (hm17 : MSE m_X10_parts d [.ref a11, .int l2, .int x16] ((g8).set a2 (100, vs9.set l1.toNatClampNeg (.int v8))) none g17) (k : SW sc m_X10_laysCode (d + 1) rc rs 6 [some (.ref r0), some (.int (l1 + 1)), none] [] g17 P) : SW sc m_X10_laysCode (d + 1) rc rs 38 [some (.ref r0), some (.int l1), some (.int l2)] [] h P := by
  refine sw_aload_n dX10_laysCode_38 rfl ?_
  refine sw_getf dX10_laysCode_39 lf_X10_44 hc2 hv2 ?_
  refine sw_iload_n dX10_laysCode_42 rfl ?_
  refine sw_aload_n dX10_laysCode_43 rfl ?_
  refine sw_getf dX10_laysCode_44 lf_X10_23 hc5 hv5 ?_
  refine sw_iload_n dX10_laysCode_47 rfl ?_
  refine sw_iald dX10_laysCode_48 hc7 ho7 hi7 ?_
  refine sw_cS dX10_laysCode_49 ls_X10_87 hm8 rfl rfl (Nat.le_of_ble_eq_true rfl) (fun _ _ => rfl) rfl ?_
  show SW sc m_X10_laysCode _ _ _ 52 [some (.ref r0), some (.int l1), some (.int l2)] [.int v8, .int l1, .ref a2] g8 P
  refine sw_iast dX10_laysCode_52 hc9 ho9 hl9 ?_
  refine sw_aload_n dX10_laysCode_53 rfl ?_
  refine sw_getf dX10_laysCode_54 lf_X10_23 hc11 hv11 ?_
  refine sw_iload_n dX10_laysCode_57 rfl ?_
  refine sw_aload_n dX10_laysCode_58 rfl ?_
  refine sw_getf dX10_laysCode_59 lf_X10_44 hc14 hv14 ?_
  refine sw_iload_n dX10_laysCode_62 rfl ?_
  refine sw_iald dX10_laysCode_63 hc16 ho16 hi16 ?_
  refine sw_cS dX10_laysCode_64 ls_X10_274 hm17 rfl rfl (Nat.le_of_ble_eq_true rfl) (fun _ _ => rfl) rfl ?_
  show SW sc m_X10_laysCode _ _ _ 67 [some (.ref r0), some (.int l1), some (.int l2)] [] g17 P
  refine sw_iinc (v := l1 + 1) dX10_laysCode_67 rfl rfl (by decide) rfl ?_
  show SW sc m_X10_laysCode _ _ _ 70 [some (.ref r0), some (.int (l1 + 1)), some (.int l2)] [] g17 P
  exact sw_goto dX10_laysCode_70 (by decide) (sw_fg [false, false, true] rfl (k))
theorem b_X10_laysCode_73  (hP : P (.inl none) h) : SW sc m_X10_laysCode d rc rs 73 [none, none, none] [] h P := by
  exact sw_ret (v := none) dX10_laysCode_73 rt_v hP
theorem b_X10_code_0 {r0 : Nat} {l1 : Int32} {v2 : Int32} {g2 : ab_H} {fs2 : List Value} (hr2 : (h)[r0]? = some (10, fs2)) (hm2 : MSE m_X10_isTree d [.ref r0] h (some (.int v2)) g2) (kt : ¬ v2 = 0 → SW sc m_X10_code (d + 1) rc rs 14 [some (.ref r0), some (.int l1), some (.int v2)] [.ref r0] g2 P) (kf : v2 = 0 → SW sc m_X10_code (d + 1) rc rs 10 [some (.ref r0), some (.int l1), some (.int v2)] [.ref r0] g2 P) : SW sc m_X10_code (d + 1) rc rs 0 [some (.ref r0), some (.int l1), none] [] h P := by
  refine sw_aload_n dX10_code_0 rfl ?_
  refine sw_cV dX10_code_1 lv_X10_304 hm2 hr2 rfl (by decide) rfl rfl rfl (Nat.le_of_ble_eq_true rfl) (fun _ _ => rfl) rfl ?_
  show SW sc m_X10_code _ _ _ 4 [some (.ref r0), some (.int l1), none] [.int v2] g2 P
  refine sw_istore_n dX10_code_4 (by decide) rfl ?_
  show SW sc m_X10_code _ _ _ 5 [some (.ref r0), some (.int l1), some (.int v2)] [] g2 P
  refine sw_aload_n dX10_code_5 rfl ?_
  refine sw_iload_n dX10_code_6 rfl ?_
  exact sw_if_ne dX10_code_7 (by decide) (fun q => (kt q)) (fun q => (kf q))
theorem b_X10_code_10 {r0 : Nat} {l1 : Int32} {l2 : Int32} {q0 : Nat} (k : SW sc m_X10_code d rc rs 15 [some (.ref r0), some (.int l1), some (.int l2)] [.int 1, .ref q0] h P) : SW sc m_X10_code d rc rs 10 [some (.ref r0), some (.int l1), some (.int l2)] [.ref q0] h P := by
  refine sw_iconst (v := 1) dX10_code_10 (by decide) ?_
  exact sw_goto dX10_code_11 (by decide) (k)
theorem b_X10_code_14 {r0 : Nat} {l1 : Int32} {l2 : Int32} {q0 : Nat} (k : SW sc m_X10_code d rc rs 15 [some (.ref r0), some (.int l1), some (.int l2)] [.int 0, .ref q0] h P) : SW sc m_X10_code d rc rs 14 [some (.ref r0), some (.int l1), some (.int l2)] [.ref q0] h P := by
  refine sw_iconst (v := 0) dX10_code_14 (by decide) ?_
  exact (k)
theorem b_X10_code_15 {r0 : Nat} {l1 : Int32} {l2 : Int32} {q0 : Nat} {s1 : Int32} (kt : l2 = 0 → SW sc m_X10_code d rc rs 40 [some (.ref r0), some (.int l1), none] [.int s1, .ref q0] h P) (kf : ¬ (l2 = 0) → SW sc m_X10_code d rc rs 19 [some (.ref r0), some (.int l1), none] [.int s1, .ref q0] h P) : SW sc m_X10_code d rc rs 15 [some (.ref r0), some (.int l1), some (.int l2)] [.int s1, .ref q0] h P := by
  refine sw_iload_n dX10_code_15 rfl ?_
  exact sw_if_eq dX10_code_16 (by decide) (fun q => (sw_fg [false, false, true] rfl (kt q))) (fun q => (sw_fg [false, false, true] rfl (kf q)))
theorem b_X10_code_19 {r0 : Nat} {l1 : Int32} {q0 : Nat} {s1 : Int32} {fs4 : List Value} {x4 : Int32} {v5 : Int32} {g5 : ab_H} {v8 : Int32} {g8 : ab_H} (hc4 : (h)[r0]? = some (10, fs4)) (hv4 : fs4[6]? = some (.int x4)) (hm5 : MSE m_X10_codeMany d [.int x4] h (some (.int v5)) g5) (hm8 : MSE m_X10_isIn d [.int l1, .int 0, .int (v5 - 1)] g5 (some (.int v8)) g8) (kt : ¬ v8 = 0 → SW sc m_X10_code (d + 1) rc rs 40 [some (.ref r0), some (.int l1), none] [.int s1, .ref q0] g8 P) (kf : v8 = 0 → SW sc m_X10_code (d + 1) rc rs 36 [some (.ref r0), some (.int l1), none] [.int s1, .ref q0] g8 P) : SW sc m_X10_code (d + 1) rc rs 19 [some (.ref r0), some (.int l1), none] [.int s1, .ref q0] h P := by
  refine sw_iload_n dX10_code_19 rfl ?_
  refine sw_iconst (v := 0) dX10_code_20 (by decide) ?_
  refine sw_aload_n dX10_code_21 rfl ?_
  refine sw_getf dX10_code_22 lf_X10_35 hc4 hv4 ?_
  refine sw_cS dX10_code_25 ls_X10_215 hm5 rfl rfl (Nat.le_of_ble_eq_true rfl) (fun _ _ => rfl) rfl ?_
  show SW sc m_X10_code _ _ _ 28 [some (.ref r0), some (.int l1), none] [.int v5, .int 0, .int l1, .int s1, .ref q0] g5 P
  refine sw_iconst (v := 1) dX10_code_28 (by decide) ?_
  refine sw_isub dX10_code_29 ?_
  refine sw_cS dX10_code_30 ls_X10_153 hm8 rfl rfl (Nat.le_of_ble_eq_true rfl) (fun _ _ => rfl) rfl ?_
  show SW sc m_X10_code _ _ _ 33 [some (.ref r0), some (.int l1), none] [.int v8, .int s1, .ref q0] g8 P
  exact sw_if_ne dX10_code_33 (by decide) (fun q => (kt q)) (fun q => (kf q))
theorem b_X10_code_36 {r0 : Nat} {l1 : Int32} {q0 : Nat} {s1 : Int32} (k : SW sc m_X10_code d rc rs 41 [some (.ref r0), some (.int l1), none] [.int 1, .int s1, .ref q0] h P) : SW sc m_X10_code d rc rs 36 [some (.ref r0), some (.int l1), none] [.int s1, .ref q0] h P := by
  refine sw_iconst (v := 1) dX10_code_36 (by decide) ?_
  exact sw_goto dX10_code_37 (by decide) (k)
theorem b_X10_code_40 {r0 : Nat} {l1 : Int32} {q0 : Nat} {s1 : Int32} (k : SW sc m_X10_code d rc rs 41 [some (.ref r0), some (.int l1), none] [.int 0, .int s1, .ref q0] h P) : SW sc m_X10_code d rc rs 40 [some (.ref r0), some (.int l1), none] [.int s1, .ref q0] h P := by
  refine sw_iconst (v := 0) dX10_code_40 (by decide) ?_
  exact (k)
theorem b_X10_code_41 {r0 : Nat} {l1 : Int32} {q0 : Nat} {s1 : Int32} {s2 : Int32} {v1 : Int32} {g1 : ab_H} {fs1 : List Value} (hr1 : (h)[q0]? = some (10, fs1)) (hm1 : MSE m_X10_fails d [.ref q0, .int s1, .int s2] h (some (.int v1)) g1) (kt : v1 = 0 → SW sc m_X10_code (d + 1) rc rs 49 [some (.ref r0), some (.int l1), none] [] g1 P) (kf : ¬ (v1 = 0) → SW sc m_X10_code (d + 1) rc rs 47 [none, none, none] [] g1 P) : SW sc m_X10_code (d + 1) rc rs 41 [some (.ref r0), some (.int l1), none] [.int s2, .int s1, .ref q0] h P := by
  refine sw_cV dX10_code_41 lv_X10_286 hm1 hr1 rfl (by decide) rfl rfl rfl (Nat.le_of_ble_eq_true rfl) (fun _ _ => rfl) rfl ?_
  show SW sc m_X10_code _ _ _ 44 [some (.ref r0), some (.int l1), none] [.int v1] g1 P
  exact sw_if_eq dX10_code_44 (by decide) (fun q => (kt q)) (fun q => (sw_fg [true, true, false] rfl (kf q)))
theorem b_X10_code_47  (hP : P (.inl (some (.int 0))) h) : SW sc m_X10_code d rc rs 47 [none, none, none] [] h P := by
  refine sw_iconst (v := 0) dX10_code_47 (by decide) ?_
  exact sw_ret (v := (some (.int 0))) dX10_code_48 rt_i hP
theorem b_X10_code_49 {r0 : Nat} {l1 : Int32} {g2 : ab_H} {fs2 : List Value} {fs4 : List Value} {a4 : Nat} {vs6 : List Value} {x6 : Int32} (hr2 : (h)[r0]? = some (10, fs2)) (hm2 : MSE m_X10_laysCode d [.ref r0] h none g2) (hc4 : (g2)[r0]? = some (10, fs4)) (hv4 : fs4[22]? = some (.ref a4)) (hc6 : (g2)[a4]? = some (100, vs6)) (ho6 : ¬ l1 < 0) (hi6 : vs6[l1.toNatClampNeg]? = some (.int x6)) (hP : P (.inl (some (.int x6))) g2) : SW sc m_X10_code (d + 1) rc rs 49 [some (.ref r0), some (.int l1), none] [] h P := by
  refine sw_aload_n dX10_code_49 rfl ?_
  refine sw_cV dX10_code_50 lv_X10_307 hm2 hr2 rfl (by decide) rfl rfl rfl (Nat.le_of_ble_eq_true rfl) (fun _ _ => rfl) rfl ?_
  show SW sc m_X10_code _ _ _ 53 [some (.ref r0), some (.int l1), none] [] g2 P
  refine sw_aload_n dX10_code_53 rfl ?_
  refine sw_getf dX10_code_54 lf_X10_44 hc4 hv4 ?_
  refine sw_iload_n dX10_code_57 rfl ?_
  refine sw_iald dX10_code_58 hc6 ho6 hi6 ?_
  exact sw_ret (v := (some (.int x6))) dX10_code_59 rt_i hP
theorem b_X10_rankNow_0 {r0 : Nat} {g2 : ab_H} {fs2 : List Value} (hr2 : (h)[r0]? = some (10, fs2)) (hm2 : MSE m_X10_laysCode d [.ref r0] h none g2) (k : SW sc m_X10_rankNow (d + 1) rc rs 8 [some (.ref r0), some (.int 0), some (.int 0)] [] g2 P) : SW sc m_X10_rankNow (d + 1) rc rs 0 [some (.ref r0), none, none] [] h P := by
  refine sw_aload_n dX10_rankNow_0 rfl ?_
  refine sw_cV dX10_rankNow_1 lv_X10_307 hm2 hr2 rfl (by decide) rfl rfl rfl (Nat.le_of_ble_eq_true rfl) (fun _ _ => rfl) rfl ?_
  show SW sc m_X10_rankNow _ _ _ 4 [some (.ref r0), none, none] [] g2 P
  refine sw_iconst (v := 0) dX10_rankNow_4 (by decide) ?_
  refine sw_istore_n dX10_rankNow_5 (by decide) rfl ?_
  show SW sc m_X10_rankNow _ _ _ 6 [some (.ref r0), some (.int 0), none] [] g2 P
  refine sw_iconst (v := 0) dX10_rankNow_6 (by decide) ?_
  refine sw_istore_n dX10_rankNow_7 (by decide) rfl ?_
  show SW sc m_X10_rankNow _ _ _ 8 [some (.ref r0), some (.int 0), some (.int 0)] [] g2 P
  exact (k)
theorem b_X10_rankNow_8 {r0 : Nat} {l1 : Int32} {l2 : Int32} {fs3 : List Value} {x3 : Int32} {v4 : Int32} {g4 : ab_H} (hc3 : (h)[r0]? = some (10, fs3)) (hv3 : fs3[6]? = some (.int x3)) (hm4 : MSE m_X10_codeMany d [.int x3] h (some (.int v4)) g4) (kt : v4 ≤ l2 → SW sc m_X10_rankNow (d + 1) rc rs 39 [none, some (.int l1), none] [] g4 P) (kf : ¬ (v4 ≤ l2) → SW sc m_X10_rankNow (d + 1) rc rs 19 [some (.ref r0), some (.int l1), some (.int l2)] [] g4 P) : SW sc m_X10_rankNow (d + 1) rc rs 8 [some (.ref r0), some (.int l1), some (.int l2)] [] h P := by
  refine sw_iload_n dX10_rankNow_8 rfl ?_
  refine sw_aload_n dX10_rankNow_9 rfl ?_
  refine sw_getf dX10_rankNow_10 lf_X10_35 hc3 hv3 ?_
  refine sw_cS dX10_rankNow_13 ls_X10_215 hm4 rfl rfl (Nat.le_of_ble_eq_true rfl) (fun _ _ => rfl) rfl ?_
  show SW sc m_X10_rankNow _ _ _ 16 [some (.ref r0), some (.int l1), some (.int l2)] [.int v4, .int l2] g4 P
  exact sw_icmp_ge dX10_rankNow_16 (by decide) (fun q => (sw_fg [true, false, true] rfl (kt q))) (fun q => (kf q))
theorem b_X10_rankNow_19 {r0 : Nat} {l1 : Int32} {l2 : Int32} {fs2 : List Value} {x2 : Int32} {fs6 : List Value} {a6 : Nat} {vs8 : List Value} {x8 : Int32} (hc2 : (h)[r0]? = some (10, fs2)) (hv2 : fs2[6]? = some (.int x2)) (hc6 : (h)[r0]? = some (10, fs6)) (hv6 : fs6[22]? = some (.ref a6)) (hc8 : (h)[a6]? = some (100, vs8)) (ho8 : ¬ l2 < 0) (hi8 : vs8[l2.toNatClampNeg]? = some (.int x8)) (k : SW sc m_X10_rankNow d rc rs 8 [some (.ref r0), some (.int ((x2 * l1) + x8)), some (.int (l2 + 1))] [] h P) : SW sc m_X10_rankNow d rc rs 19 [some (.ref r0), some (.int l1), some (.int l2)] [] h P := by
  refine sw_aload_n dX10_rankNow_19 rfl ?_
  refine sw_getf dX10_rankNow_20 lf_X10_35 hc2 hv2 ?_
  refine sw_iload_n dX10_rankNow_23 rfl ?_
  refine sw_imul dX10_rankNow_24 ?_
  refine sw_aload_n dX10_rankNow_25 rfl ?_
  refine sw_getf dX10_rankNow_26 lf_X10_44 hc6 hv6 ?_
  refine sw_iload_n dX10_rankNow_29 rfl ?_
  refine sw_iald dX10_rankNow_30 hc8 ho8 hi8 ?_
  refine sw_iadd dX10_rankNow_31 ?_
  refine sw_istore_n dX10_rankNow_32 (by decide) rfl ?_
  show SW sc m_X10_rankNow _ _ _ 33 [some (.ref r0), some (.int ((x2 * l1) + x8)), some (.int l2)] [] h P
  refine sw_iinc (v := l2 + 1) dX10_rankNow_33 rfl rfl (by decide) rfl ?_
  show SW sc m_X10_rankNow _ _ _ 36 [some (.ref r0), some (.int ((x2 * l1) + x8)), some (.int (l2 + 1))] [] h P
  exact sw_goto dX10_rankNow_36 (by decide) (k)
theorem b_X10_rankNow_39 {l1 : Int32} (hP : P (.inl (some (.int l1))) h) : SW sc m_X10_rankNow d rc rs 39 [none, some (.int l1), none] [] h P := by
  refine sw_iload_n dX10_rankNow_39 rfl ?_
  exact sw_ret (v := (some (.int l1))) dX10_rankNow_40 rt_i hP
theorem b_X10_rank_0 {r0 : Nat} {v3 : Int32} {g3 : ab_H} {fs3 : List Value} (hr3 : (h)[r0]? = some (10, fs3)) (hm3 : MSE m_X10_isTree d [.ref r0] h (some (.int v3)) g3) (kt : ¬ v3 = 0 → SW sc m_X10_rank (d + 1) rc rs 12 [some (.ref r0)] [.ref r0] g3 P) (kf : v3 = 0 → SW sc m_X10_rank (d + 1) rc rs 8 [some (.ref r0)] [.ref r0] g3 P) : SW sc m_X10_rank (d + 1) rc rs 0 [some (.ref r0)] [] h P := by
  refine sw_aload_n dX10_rank_0 rfl ?_
  refine sw_aload_n dX10_rank_1 rfl ?_
  refine sw_cV dX10_rank_2 lv_X10_304 hm3 hr3 rfl (by decide) rfl rfl rfl (Nat.le_of_ble_eq_true rfl) (fun _ _ => rfl) rfl ?_
  show SW sc m_X10_rank _ _ _ 5 [some (.ref r0)] [.int v3, .ref r0] g3 P
  exact sw_if_ne dX10_rank_5 (by decide) (fun q => (kt q)) (fun q => (kf q))
theorem b_X10_rank_8 {r0 : Nat} {q0 : Nat} (k : SW sc m_X10_rank d rc rs 13 [some (.ref r0)] [.int 1, .ref q0] h P) : SW sc m_X10_rank d rc rs 8 [some (.ref r0)] [.ref q0] h P := by
  refine sw_iconst (v := 1) dX10_rank_8 (by decide) ?_
  exact sw_goto dX10_rank_9 (by decide) (k)
theorem b_X10_rank_12 {r0 : Nat} {q0 : Nat} (k : SW sc m_X10_rank d rc rs 13 [some (.ref r0)] [.int 0, .ref q0] h P) : SW sc m_X10_rank d rc rs 12 [some (.ref r0)] [.ref q0] h P := by
  refine sw_iconst (v := 0) dX10_rank_12 (by decide) ?_
  exact (k)
theorem b_X10_rank_13 {r0 : Nat} {q0 : Nat} {s1 : Int32} {v2 : Int32} {g2 : ab_H} {fs2 : List Value} (hr2 : (h)[q0]? = some (10, fs2)) (hm2 : MSE m_X10_fails d [.ref q0, .int s1, .int 0] h (some (.int v2)) g2) (kt : v2 = 0 → SW sc m_X10_rank (d + 1) rc rs 24 [some (.ref r0)] [] g2 P) (kf : ¬ (v2 = 0) → SW sc m_X10_rank (d + 1) rc rs 20 [none] [] g2 P) : SW sc m_X10_rank (d + 1) rc rs 13 [some (.ref r0)] [.int s1, .ref q0] h P := by
  refine sw_iconst (v := 0) dX10_rank_13 (by decide) ?_
  refine sw_cV dX10_rank_14 lv_X10_286 hm2 hr2 rfl (by decide) rfl rfl rfl (Nat.le_of_ble_eq_true rfl) (fun _ _ => rfl) rfl ?_
  show SW sc m_X10_rank _ _ _ 17 [some (.ref r0)] [.int v2] g2 P
  exact sw_if_eq dX10_rank_17 (by decide) (fun q => (kt q)) (fun q => (sw_fg [true] rfl (kf q)))
theorem b_X10_rank_20  (k : SW sc m_X10_rank d rc rs 28 [none] [.int 0] h P) : SW sc m_X10_rank d rc rs 20 [none] [] h P := by
  refine sw_iconst (v := 0) dX10_rank_20 (by decide) ?_
  exact sw_goto dX10_rank_21 (by decide) (k)
theorem b_X10_rank_24 {r0 : Nat} {v2 : Int32} {g2 : ab_H} {fs2 : List Value} (hr2 : (h)[r0]? = some (10, fs2)) (hm2 : MSE m_X10_rankNow d [.ref r0] h (some (.int v2)) g2) (k : SW sc m_X10_rank (d + 1) rc rs 28 [none] [.int v2] g2 P) : SW sc m_X10_rank (d + 1) rc rs 24 [some (.ref r0)] [] h P := by
  refine sw_aload_n dX10_rank_24 rfl ?_
  refine sw_cV dX10_rank_25 lv_X10_310 hm2 hr2 rfl (by decide) rfl rfl rfl (Nat.le_of_ble_eq_true rfl) (fun _ _ => rfl) rfl ?_
  show SW sc m_X10_rank _ _ _ 28 [some (.ref r0)] [.int v2] g2 P
  exact (sw_fg [true] rfl (k))
theorem b_X10_rank_28 {s0 : Int32} (hP : P (.inl (some (.int s0))) h) : SW sc m_X10_rank d rc rs 28 [none] [.int s0] h P := by
  exact sw_ret (v := (some (.int s0))) dX10_rank_28 rt_i hP
theorem b_X10_ranks_0 {l0 : Int32} (k : SW sc m_X10_ranks d rc rs 4 [some (.int l0), some (.int 1), some (.int 0)] [] h P) : SW sc m_X10_ranks d rc rs 0 [some (.int l0), none, none] [] h P := by
  refine sw_iconst (v := 1) dX10_ranks_0 (by decide) ?_
  refine sw_istore_n dX10_ranks_1 (by decide) rfl ?_
  show SW sc m_X10_ranks _ _ _ 2 [some (.int l0), some (.int 1), none] [] h P
  refine sw_iconst (v := 0) dX10_ranks_2 (by decide) ?_
  refine sw_istore_n dX10_ranks_3 (by decide) rfl ?_
  show SW sc m_X10_ranks _ _ _ 4 [some (.int l0), some (.int 1), some (.int 0)] [] h P
  exact (k)
theorem b_X10_ranks_4 {l0 : Int32} {l1 : Int32} {l2 : Int32} {v3 : Int32} {g3 : ab_H} (hm3 : MSE m_X10_codeMany d [.int l0] h (some (.int v3)) g3) (kt : v3 ≤ l2 → SW sc m_X10_ranks (d + 1) rc rs 22 [none, some (.int l1), none] [] g3 P) (kf : ¬ (v3 ≤ l2) → SW sc m_X10_ranks (d + 1) rc rs 12 [some (.int l0), some (.int l1), some (.int l2)] [] g3 P) : SW sc m_X10_ranks (d + 1) rc rs 4 [some (.int l0), some (.int l1), some (.int l2)] [] h P := by
  refine sw_iload_n dX10_ranks_4 rfl ?_
  refine sw_iload_n dX10_ranks_5 rfl ?_
  refine sw_cS dX10_ranks_6 ls_X10_215 hm3 rfl rfl (Nat.le_of_ble_eq_true rfl) (fun _ _ => rfl) rfl ?_
  show SW sc m_X10_ranks _ _ _ 9 [some (.int l0), some (.int l1), some (.int l2)] [.int v3, .int l2] g3 P
  exact sw_icmp_ge dX10_ranks_9 (by decide) (fun q => (sw_fg [true, false, true] rfl (kt q))) (fun q => (kf q))
theorem b_X10_ranks_12 {l0 : Int32} {l1 : Int32} {l2 : Int32} (k : SW sc m_X10_ranks d rc rs 4 [some (.int l0), some (.int (l1 * l0)), some (.int (l2 + 1))] [] h P) : SW sc m_X10_ranks d rc rs 12 [some (.int l0), some (.int l1), some (.int l2)] [] h P := by
  refine sw_iload_n dX10_ranks_12 rfl ?_
  refine sw_iload_n dX10_ranks_13 rfl ?_
  refine sw_imul dX10_ranks_14 ?_
  refine sw_istore_n dX10_ranks_15 (by decide) rfl ?_
  show SW sc m_X10_ranks _ _ _ 16 [some (.int l0), some (.int (l1 * l0)), some (.int l2)] [] h P
  refine sw_iinc (v := l2 + 1) dX10_ranks_16 rfl rfl (by decide) rfl ?_
  show SW sc m_X10_ranks _ _ _ 19 [some (.int l0), some (.int (l1 * l0)), some (.int (l2 + 1))] [] h P
  exact sw_goto dX10_ranks_19 (by decide) (k)
theorem b_X10_ranks_22 {l1 : Int32} (hP : P (.inl (some (.int l1))) h) : SW sc m_X10_ranks d rc rs 22 [none, some (.int l1), none] [] h P := by
  refine sw_iload_n dX10_ranks_22 rfl ?_
  exact sw_ret (v := (some (.int l1))) dX10_ranks_23 rt_i hP
theorem b_X10_decodes_0 {r0 : Nat} {l1 : Int32} {l2 : Int32} {v4 : Int32} {g4 : ab_H} (hm4 : MSE m_X10_codeMany d [.int l2] h (some (.int v4)) g4) (k : SW sc m_X10_decodes (d + 1) rc rs 10 [some (.ref r0), none, some (.int l2), some (.int l1), some (.int (v4 - 1))] [] g4 P) : SW sc m_X10_decodes (d + 1) rc rs 0 [some (.ref r0), some (.int l1), some (.int l2), none, none] [] h P := by
  refine sw_iload_n dX10_decodes_0 rfl ?_
  refine sw_istore_n dX10_decodes_1 (by decide) rfl ?_
  show SW sc m_X10_decodes _ _ _ 2 [some (.ref r0), some (.int l1), some (.int l2), some (.int l1), none] [] h P
  refine sw_iload_n dX10_decodes_2 rfl ?_
  refine sw_cS dX10_decodes_3 ls_X10_215 hm4 rfl rfl (Nat.le_of_ble_eq_true rfl) (fun _ _ => rfl) rfl ?_
  show SW sc m_X10_decodes _ _ _ 6 [some (.ref r0), some (.int l1), some (.int l2), some (.int l1), none] [.int v4] g4 P
  refine sw_iconst (v := 1) dX10_decodes_6 (by decide) ?_
  refine sw_isub dX10_decodes_7 ?_
  refine sw_istore dX10_decodes_8 (by decide) rfl ?_
  show SW sc m_X10_decodes _ _ _ 10 [some (.ref r0), some (.int l1), some (.int l2), some (.int l1), some (.int (v4 - 1))] [] g4 P
  exact (sw_fg [false, true, false, false, false] rfl (k))
theorem b_X10_decodes_10 {r0 : Nat} {l2 : Int32} {l3 : Int32} {l4 : Int32} (kt : l4 < 0 → SW sc m_X10_decodes d rc rs 35 [none, none, none, none, none] [] h P) (kf : ¬ (l4 < 0) → SW sc m_X10_decodes d rc rs 15 [some (.ref r0), none, some (.int l2), some (.int l3), some (.int l4)] [] h P) : SW sc m_X10_decodes d rc rs 10 [some (.ref r0), none, some (.int l2), some (.int l3), some (.int l4)] [] h P := by
  refine sw_iload dX10_decodes_10 rfl ?_
  exact sw_if_lt dX10_decodes_12 (by decide) (fun q => (sw_fg [true, false, true, true, true] rfl (kt q))) (fun q => (kf q))
theorem b_X10_decodes_15 {r0 : Nat} {l2 : Int32} {l3 : Int32} {l4 : Int32} {fs2 : List Value} {a2 : Nat} {vs7 : List Value} (hc2 : (h)[r0]? = some (10, fs2)) (hv2 : fs2[22]? = some (.ref a2)) (hz6 : ¬ l2 = 0) (hc7 : (h)[a2]? = some (100, vs7)) (ho7 : ¬ l4 < 0) (hl7 : l4.toNatClampNeg < vs7.length) (hz10 : ¬ l2 = 0) (k : SW sc m_X10_decodes d rc rs 10 [some (.ref r0), none, some (.int l2), some (.int (l3 / l2)), some (.int (l4 + (-1)))] [] ((h).set a2 (100, vs7.set l4.toNatClampNeg (.int (l3 - l3 / l2 * l2)))) P) : SW sc m_X10_decodes d rc rs 15 [some (.ref r0), none, some (.int l2), some (.int l3), some (.int l4)] [] h P := by
  refine sw_aload_n dX10_decodes_15 rfl ?_
  refine sw_getf dX10_decodes_16 lf_X10_44 hc2 hv2 ?_
  refine sw_iload dX10_decodes_19 rfl ?_
  refine sw_iload_n dX10_decodes_21 rfl ?_
  refine sw_iload_n dX10_decodes_22 rfl ?_
  refine sw_irem dX10_decodes_23 hz6 ?_
  refine sw_iast dX10_decodes_24 hc7 ho7 hl7 ?_
  refine sw_iload_n dX10_decodes_25 rfl ?_
  refine sw_iload_n dX10_decodes_26 rfl ?_
  refine sw_idiv dX10_decodes_27 hz10 ?_
  refine sw_istore_n dX10_decodes_28 (by decide) rfl ?_
  show SW sc m_X10_decodes _ _ _ 29 [some (.ref r0), none, some (.int l2), some (.int (l3 / l2)), some (.int l4)] [] ((h).set a2 (100, vs7.set l4.toNatClampNeg (.int (l3 - l3 / l2 * l2)))) P
  refine sw_iinc (v := l4 + (-1)) dX10_decodes_29 rfl rfl (by decide) rfl ?_
  show SW sc m_X10_decodes _ _ _ 32 [some (.ref r0), none, some (.int l2), some (.int (l3 / l2)), some (.int (l4 + (-1)))] [] ((h).set a2 (100, vs7.set l4.toNatClampNeg (.int (l3 - l3 / l2 * l2)))) P
  exact sw_goto dX10_decodes_32 (by decide) (k)
theorem b_X10_decodes_35  (hP : P (.inl none) h) : SW sc m_X10_decodes d rc rs 35 [none, none, none, none, none] [] h P := by
  exact sw_ret (v := none) dX10_decodes_35 rt_v hP
theorem b_X10_factorial_0 {l0 : Int32} (k : SW sc m_X10_factorial d rc rs 4 [some (.int l0), some (.long 1), none, some (.int 2)] [] h P) : SW sc m_X10_factorial d rc rs 0 [some (.int l0), none, none, none] [] h P := by
  refine sw_lconst (v := 1) dX10_factorial_0 (by decide) ?_
  refine sw_lstore_n dX10_factorial_1 (by decide) rfl ?_
  show SW sc m_X10_factorial _ _ _ 2 [some (.int l0), some (.long 1), none, none] [] h P
  refine sw_iconst (v := 2) dX10_factorial_2 (by decide) ?_
  refine sw_istore_n dX10_factorial_3 (by decide) rfl ?_
  show SW sc m_X10_factorial _ _ _ 4 [some (.int l0), some (.long 1), none, some (.int 2)] [] h P
  exact (k)
theorem b_X10_factorial_4 {l0 : Int32} {j1 : Int64} {l3 : Int32} (kt : l0 < l3 → SW sc m_X10_factorial d rc rs 20 [none, some (.long j1), none, none] [] h P) (kf : ¬ (l0 < l3) → SW sc m_X10_factorial d rc rs 9 [some (.int l0), some (.long j1), none, some (.int l3)] [] h P) : SW sc m_X10_factorial d rc rs 4 [some (.int l0), some (.long j1), none, some (.int l3)] [] h P := by
  refine sw_iload_n dX10_factorial_4 rfl ?_
  refine sw_iload_n dX10_factorial_5 rfl ?_
  exact sw_icmp_gt dX10_factorial_6 (by decide) (fun q => (sw_fg [true, false, false, true] rfl (kt q))) (fun q => (kf q))
theorem b_X10_factorial_9 {l0 : Int32} {j1 : Int64} {l3 : Int32} (k : SW sc m_X10_factorial d rc rs 4 [some (.int l0), some (.long (j1 * l3.toInt64)), none, some (.int (l3 + 1))] [] h P) : SW sc m_X10_factorial d rc rs 9 [some (.int l0), some (.long j1), none, some (.int l3)] [] h P := by
  refine sw_lload_n dX10_factorial_9 rfl ?_
  refine sw_iload_n dX10_factorial_10 rfl ?_
  refine sw_i2l dX10_factorial_11 ?_
  refine sw_lmul dX10_factorial_12 ?_
  refine sw_lstore_n dX10_factorial_13 (by decide) rfl ?_
  show SW sc m_X10_factorial _ _ _ 14 [some (.int l0), some (.long (j1 * l3.toInt64)), none, some (.int l3)] [] h P
  refine sw_iinc (v := l3 + 1) dX10_factorial_14 rfl rfl (by decide) rfl ?_
  show SW sc m_X10_factorial _ _ _ 17 [some (.int l0), some (.long (j1 * l3.toInt64)), none, some (.int (l3 + 1))] [] h P
  exact sw_goto dX10_factorial_17 (by decide) (k)
theorem b_X10_factorial_20 {j1 : Int64} (hP : P (.inl (some (.long j1))) h) : SW sc m_X10_factorial d rc rs 20 [none, some (.long j1), none, none] [] h P := by
  refine sw_lload_n dX10_factorial_20 rfl ?_
  exact sw_ret (v := (some (.long j1))) dX10_factorial_21 rt_l hP
theorem b_X10_sameDegrees_0 {r0 : Nat} {v3 : Int32} {g3 : ab_H} {fs3 : List Value} (hr3 : (h)[r0]? = some (10, fs3)) (hm3 : MSE m_X10_isTree d [.ref r0] h (some (.int v3)) g3) (kt : ¬ v3 = 0 → SW sc m_X10_sameDegrees (d + 1) rc rs 12 [some (.ref r0), none, none, none] [.ref r0] g3 P) (kf : v3 = 0 → SW sc m_X10_sameDegrees (d + 1) rc rs 8 [some (.ref r0), none, none, none] [.ref r0] g3 P) : SW sc m_X10_sameDegrees (d + 1) rc rs 0 [some (.ref r0), none, none, none] [] h P := by
  refine sw_aload_n dX10_sameDegrees_0 rfl ?_
  refine sw_aload_n dX10_sameDegrees_1 rfl ?_
  refine sw_cV dX10_sameDegrees_2 lv_X10_304 hm3 hr3 rfl (by decide) rfl rfl rfl (Nat.le_of_ble_eq_true rfl) (fun _ _ => rfl) rfl ?_
  show SW sc m_X10_sameDegrees _ _ _ 5 [some (.ref r0), none, none, none] [.int v3, .ref r0] g3 P
  exact sw_if_ne dX10_sameDegrees_5 (by decide) (fun q => (kt q)) (fun q => (kf q))
theorem b_X10_sameDegrees_8 {r0 : Nat} {q0 : Nat} (k : SW sc m_X10_sameDegrees d rc rs 13 [some (.ref r0), none, none, none] [.int 1, .ref q0] h P) : SW sc m_X10_sameDegrees d rc rs 8 [some (.ref r0), none, none, none] [.ref q0] h P := by
  refine sw_iconst (v := 1) dX10_sameDegrees_8 (by decide) ?_
  exact sw_goto dX10_sameDegrees_9 (by decide) (k)
theorem b_X10_sameDegrees_12 {r0 : Nat} {q0 : Nat} (k : SW sc m_X10_sameDegrees d rc rs 13 [some (.ref r0), none, none, none] [.int 0, .ref q0] h P) : SW sc m_X10_sameDegrees d rc rs 12 [some (.ref r0), none, none, none] [.ref q0] h P := by
  refine sw_iconst (v := 0) dX10_sameDegrees_12 (by decide) ?_
  exact (k)
theorem b_X10_sameDegrees_13 {r0 : Nat} {q0 : Nat} {s1 : Int32} {v2 : Int32} {g2 : ab_H} {fs2 : List Value} (hr2 : (h)[q0]? = some (10, fs2)) (hm2 : MSE m_X10_fails d [.ref q0, .int s1, .int 0] h (some (.int v2)) g2) (kt : v2 = 0 → SW sc m_X10_sameDegrees (d + 1) rc rs 22 [some (.ref r0), none, none, none] [] g2 P) (kf : ¬ (v2 = 0) → SW sc m_X10_sameDegrees (d + 1) rc rs 20 [none, none, none, none] [] g2 P) : SW sc m_X10_sameDegrees (d + 1) rc rs 13 [some (.ref r0), none, none, none] [.int s1, .ref q0] h P := by
  refine sw_iconst (v := 0) dX10_sameDegrees_13 (by decide) ?_
  refine sw_cV dX10_sameDegrees_14 lv_X10_286 hm2 hr2 rfl (by decide) rfl rfl rfl (Nat.le_of_ble_eq_true rfl) (fun _ _ => rfl) rfl ?_
  show SW sc m_X10_sameDegrees _ _ _ 17 [some (.ref r0), none, none, none] [.int v2] g2 P
  exact sw_if_eq dX10_sameDegrees_17 (by decide) (fun q => (kt q)) (fun q => (sw_fg [true, false, false, false] rfl (kf q)))
theorem b_X10_sameDegrees_20  (hP : P (.inl (some (.int 0))) h) : SW sc m_X10_sameDegrees d rc rs 20 [none, none, none, none] [] h P := by
  refine sw_iconst (v := 0) dX10_sameDegrees_20 (by decide) ?_
  exact sw_ret (v := (some (.int 0))) dX10_sameDegrees_21 rt_i hP
theorem b_X10_sameDegrees_22 {r0 : Nat} {fs2 : List Value} {x2 : Int32} (hc2 : (h)[r0]? = some (10, fs2)) (hv2 : fs2[6]? = some (.int x2)) (kt : ¬ x2 = 1 → SW sc m_X10_sameDegrees d rc rs 32 [some (.ref r0), none, none, none] [] h P) (kf : x2 = 1 → SW sc m_X10_sameDegrees d rc rs 30 [none, none, none, none] [] h P) : SW sc m_X10_sameDegrees d rc rs 22 [some (.ref r0), none, none, none] [] h P := by
  refine sw_aload_n dX10_sameDegrees_22 rfl ?_
  refine sw_getf dX10_sameDegrees_23 lf_X10_35 hc2 hv2 ?_
  refine sw_iconst (v := 1) dX10_sameDegrees_26 (by decide) ?_
  exact sw_icmp_ne dX10_sameDegrees_27 (by decide) (fun q => (kt q)) (fun q => (sw_fg [true, false, false, false] rfl (kf q)))
theorem b_X10_sameDegrees_30  (hP : P (.inl (some (.int 1))) h) : SW sc m_X10_sameDegrees d rc rs 30 [none, none, none, none] [] h P := by
  refine sw_iconst (v := 1) dX10_sameDegrees_30 (by decide) ?_
  exact sw_ret (v := (some (.int 1))) dX10_sameDegrees_31 rt_i hP
theorem b_X10_sameDegrees_32 {r0 : Nat} {fs2 : List Value} {x2 : Int32} {v5 : Int64} {g5 : ab_H} (hc2 : (h)[r0]? = some (10, fs2)) (hv2 : fs2[6]? = some (.int x2)) (hm5 : MSE m_X10_factorial d [.int (x2 - 2)] h (some (.long v5)) g5) (k : SW sc m_X10_sameDegrees (d + 1) rc rs 44 [some (.ref r0), some (.long v5), none, some (.int 0)] [] g5 P) : SW sc m_X10_sameDegrees (d + 1) rc rs 32 [some (.ref r0), none, none, none] [] h P := by
  refine sw_aload_n dX10_sameDegrees_32 rfl ?_
  refine sw_getf dX10_sameDegrees_33 lf_X10_35 hc2 hv2 ?_
  refine sw_iconst (v := 2) dX10_sameDegrees_36 (by decide) ?_
  refine sw_isub dX10_sameDegrees_37 ?_
  refine sw_cS dX10_sameDegrees_38 ls_X10_313 hm5 rfl rfl (Nat.le_of_ble_eq_true rfl) (fun _ _ => rfl) rfl ?_
  show SW sc m_X10_sameDegrees _ _ _ 41 [some (.ref r0), none, none, none] [.long v5] g5 P
  refine sw_lstore_n dX10_sameDegrees_41 (by decide) rfl ?_
  show SW sc m_X10_sameDegrees _ _ _ 42 [some (.ref r0), some (.long v5), none, none] [] g5 P
  refine sw_iconst (v := 0) dX10_sameDegrees_42 (by decide) ?_
  refine sw_istore_n dX10_sameDegrees_43 (by decide) rfl ?_
  show SW sc m_X10_sameDegrees _ _ _ 44 [some (.ref r0), some (.long v5), none, some (.int 0)] [] g5 P
  exact (k)
theorem b_X10_sameDegrees_44 {r0 : Nat} {j1 : Int64} {l3 : Int32} {fs3 : List Value} {x3 : Int32} (hc3 : (h)[r0]? = some (10, fs3)) (hv3 : fs3[6]? = some (.int x3)) (kt : x3 ≤ l3 → SW sc m_X10_sameDegrees d rc rs 75 [none, some (.long j1), none, none] [] h P) (kf : ¬ (x3 ≤ l3) → SW sc m_X10_sameDegrees d rc rs 52 [some (.ref r0), some (.long j1), none, some (.int l3)] [] h P) : SW sc m_X10_sameDegrees d rc rs 44 [some (.ref r0), some (.long j1), none, some (.int l3)] [] h P := by
  refine sw_iload_n dX10_sameDegrees_44 rfl ?_
  refine sw_aload_n dX10_sameDegrees_45 rfl ?_
  refine sw_getf dX10_sameDegrees_46 lf_X10_35 hc3 hv3 ?_
  exact sw_icmp_ge dX10_sameDegrees_49 (by decide) (fun q => (sw_fg [true, false, false, true] rfl (kt q))) (fun q => (kf q))
theorem b_X10_sameDegrees_52 {r0 : Nat} {j1 : Int64} {l3 : Int32} {fs3 : List Value} {a3 : Nat} {vs5 : List Value} {x5 : Int32} {v6 : Int32} {g6 : ab_H} {v9 : Int64} {g9 : ab_H} (hc3 : (h)[r0]? = some (10, fs3)) (hv3 : fs3[1]? = some (.ref a3)) (hc5 : (h)[a3]? = some (100, vs5)) (ho5 : ¬ l3 < 0) (hi5 : vs5[l3.toNatClampNeg]? = some (.int x5)) (hm6 : MSE m_X10_ones d [.int x5] h (some (.int v6)) g6) (hm9 : MSE m_X10_factorial d [.int (v6 - 1)] g6 (some (.long v9)) g9) (hz10 : ¬ v9 = 0) (k : SW sc m_X10_sameDegrees (d + 1) rc rs 44 [some (.ref r0), some (.long (j1 / v9)), none, some (.int (l3 + 1))] [] g9 P) : SW sc m_X10_sameDegrees (d + 1) rc rs 52 [some (.ref r0), some (.long j1), none, some (.int l3)] [] h P := by
  refine sw_lload_n dX10_sameDegrees_52 rfl ?_
  refine sw_aload_n dX10_sameDegrees_53 rfl ?_
  refine sw_getf dX10_sameDegrees_54 lf_X10_19 hc3 hv3 ?_
  refine sw_iload_n dX10_sameDegrees_57 rfl ?_
  refine sw_iald dX10_sameDegrees_58 hc5 ho5 hi5 ?_
  refine sw_cS dX10_sameDegrees_59 ls_X10_111 hm6 rfl rfl (Nat.le_of_ble_eq_true rfl) (fun _ _ => rfl) rfl ?_
  show SW sc m_X10_sameDegrees _ _ _ 62 [some (.ref r0), some (.long j1), none, some (.int l3)] [.int v6, .long j1] g6 P
  refine sw_iconst (v := 1) dX10_sameDegrees_62 (by decide) ?_
  refine sw_isub dX10_sameDegrees_63 ?_
  refine sw_cS dX10_sameDegrees_64 ls_X10_313 hm9 rfl rfl (Nat.le_of_ble_eq_true rfl) (fun _ _ => rfl) rfl ?_
  show SW sc m_X10_sameDegrees _ _ _ 67 [some (.ref r0), some (.long j1), none, some (.int l3)] [.long v9, .long j1] g9 P
  refine sw_ldiv dX10_sameDegrees_67 hz10 ?_
  refine sw_lstore_n dX10_sameDegrees_68 (by decide) rfl ?_
  show SW sc m_X10_sameDegrees _ _ _ 69 [some (.ref r0), some (.long (j1 / v9)), none, some (.int l3)] [] g9 P
  refine sw_iinc (v := l3 + 1) dX10_sameDegrees_69 rfl rfl (by decide) rfl ?_
  show SW sc m_X10_sameDegrees _ _ _ 72 [some (.ref r0), some (.long (j1 / v9)), none, some (.int (l3 + 1))] [] g9 P
  exact sw_goto dX10_sameDegrees_72 (by decide) (k)
theorem b_X10_sameDegrees_75 {j1 : Int64} (hP : P (.inl (some (.int j1.toInt32))) h) : SW sc m_X10_sameDegrees d rc rs 75 [none, some (.long j1), none, none] [] h P := by
  refine sw_lload_n dX10_sameDegrees_75 rfl ?_
  refine sw_l2i dX10_sameDegrees_76 ?_
  exact sw_ret (v := (some (.int j1.toInt32))) dX10_sameDegrees_77 rt_i hP
theorem b_X10_says_0 {r0 : Nat} {l1 : Int32} {fs2 : List Value} {a2 : Nat} {fs4 : List Value} {x4 : Int32} {vs6 : List Value} {fs9 : List Value} {x9 : Int32} {fs12 : List Value} (hc2 : (h)[r0]? = some (10, fs2)) (hv2 : fs2[23]? = some (.ref a2)) (hc4 : (h)[r0]? = some (10, fs4)) (hv4 : fs4[24]? = some (.int x4)) (hc6 : (h)[a2]? = some (100, vs6)) (ho6 : ¬ x4 < 0) (hl6 : x4.toNatClampNeg < vs6.length) (hc9 : ((h).set a2 (100, vs6.set x4.toNatClampNeg (.int l1)))[r0]? = some (10, fs9)) (hv9 : fs9[24]? = some (.int x9)) (hc12 : ((h).set a2 (100, vs6.set x4.toNatClampNeg (.int l1)))[r0]? = some (10, fs12)) (hk12 : 24 < fs12.length) (hP : P (.inl none) (((h).set a2 (100, vs6.set x4.toNatClampNeg (.int l1))).set r0 (10, fs12.set 24 (.int (x9 + 1))))) : SW sc m_X10_says d rc rs 0 [some (.ref r0), some (.int l1)] [] h P := by
  refine sw_aload_n dX10_says_0 rfl ?_
  refine sw_getf dX10_says_1 lf_X10_47 hc2 hv2 ?_
  refine sw_aload_n dX10_says_4 rfl ?_
  refine sw_getf dX10_says_5 lf_X10_317 hc4 hv4 ?_
  refine sw_iload_n dX10_says_8 rfl ?_
  refine sw_iast dX10_says_9 hc6 ho6 hl6 ?_
  refine sw_aload_n dX10_says_10 rfl ?_
  refine sw_dup dX10_says_11 (fun _ _ => rfl) ?_
  refine sw_getf dX10_says_12 lf_X10_317 hc9 hv9 ?_
  refine sw_iconst (v := 1) dX10_says_15 (by decide) ?_
  refine sw_iadd dX10_says_16 ?_
  refine sw_putf dX10_says_17 lp_X10_317 hc12 hk12 (fun _ _ => ⟨rfl, rfl⟩) ?_
  exact sw_ret (v := none) dX10_says_20 rt_v hP
theorem b_X10_saysWord_0 {r0 : Nat} {t1 : Nat} (k : SW sc m_X10_saysWord d rc rs 2 [some (.ref r0), some (.retAddr t1), some (.int 0)] [] h P) : SW sc m_X10_saysWord d rc rs 0 [some (.ref r0), some (.retAddr t1), none] [] h P := by
  refine sw_iconst (v := 0) dX10_saysWord_0 (by decide) ?_
  refine sw_istore_n dX10_saysWord_1 (by decide) rfl ?_
  show SW sc m_X10_saysWord _ _ _ 2 [some (.ref r0), some (.retAddr t1), some (.int 0)] [] h P
  exact (k)
theorem b_X10_saysWord_2 {r0 : Nat} {t1 : Nat} {l2 : Int32} {v3 : Int32} {g3 : ab_H} (ht2 : t1 < 6) (ht3 : t1 < 6) (hm3 : MSE m_J0_length_8abf5 d [.retAddr t1] h (some (.int v3)) g3) (kt : v3 ≤ l2 → SW sc m_X10_saysWord (d + 1) rc rs 25 [none, none, none] [] g3 P) (kf : ¬ (v3 ≤ l2) → SW sc m_X10_saysWord (d + 1) rc rs 10 [some (.ref r0), some (.retAddr t1), some (.int l2)] [] g3 P) : SW sc m_X10_saysWord (d + 1) rc rs 2 [some (.ref r0), some (.retAddr t1), some (.int l2)] [] h P := by
  refine sw_iload_n dX10_saysWord_2 rfl ?_
  refine sw_aload_nt dX10_saysWord_3 rfl (Or.inl ht2) ?_
  refine sw_cT dX10_saysWord_4 lv_X10_181 rfl ht3 hm3 rfl rfl (Nat.le_of_ble_eq_true rfl) (fun _ _ => rfl) (fun σ τ v hv => by simp at hv) ?_
  show SW sc m_X10_saysWord _ _ _ 7 [some (.ref r0), some (.retAddr t1), some (.int l2)] [.int v3, .int l2] g3 P
  exact sw_icmp_ge dX10_saysWord_7 (by decide) (fun q => (sw_fg [true, true, true] rfl (kt q))) (fun q => (kf q))
theorem b_X10_saysWord_10 {r0 : Nat} {t1 : Nat} {l2 : Int32} {v4 : Int32} {g4 : ab_H} {g5 : ab_H} {fs5 : List Value} (ht2 : t1 < 6) (ht4 : t1 < 6) (hm4 : MSE m_J0_charAt_5068e d [.retAddr t1, .int l2] h (some (.int v4)) g4) (hr5 : (g4)[r0]? = some (10, fs5)) (hm5 : MSE m_X10_says d [.ref r0, .int v4] g4 none g5) (k : SW sc m_X10_saysWord (d + 1) rc rs 2 [some (.ref r0), some (.retAddr t1), some (.int (l2 + 1))] [] g5 P) : SW sc m_X10_saysWord (d + 1) rc rs 10 [some (.ref r0), some (.retAddr t1), some (.int l2)] [] h P := by
  refine sw_aload_n dX10_saysWord_10 rfl ?_
  refine sw_aload_nt dX10_saysWord_11 rfl (Or.inl ht2) ?_
  refine sw_iload_n dX10_saysWord_12 rfl ?_
  refine sw_cT dX10_saysWord_13 lv_X10_186 rfl ht4 hm4 rfl rfl (Nat.le_of_ble_eq_true rfl) (fun _ _ => rfl) (fun σ τ v hv => by rw [List.mem_singleton.mp hv]; rfl) ?_
  show SW sc m_X10_saysWord _ _ _ 16 [some (.ref r0), some (.retAddr t1), some (.int l2)] [.int v4, .ref r0] g4 P
  refine sw_cV dX10_saysWord_16 lv_X10_320 hm5 hr5 rfl (by decide) rfl rfl rfl (Nat.le_of_ble_eq_true rfl) (fun _ _ => rfl) rfl ?_
  show SW sc m_X10_saysWord _ _ _ 19 [some (.ref r0), some (.retAddr t1), some (.int l2)] [] g5 P
  refine sw_iinc (v := l2 + 1) dX10_saysWord_19 rfl rfl (by decide) rfl ?_
  show SW sc m_X10_saysWord _ _ _ 22 [some (.ref r0), some (.retAddr t1), some (.int (l2 + 1))] [] g5 P
  exact sw_goto dX10_saysWord_22 (by decide) (k)
theorem b_X10_saysWord_25  (hP : P (.inl none) h) : SW sc m_X10_saysWord d rc rs 25 [none, none, none] [] h P := by
  exact sw_ret (v := none) dX10_saysWord_25 rt_v hP
theorem b_X10_saysNumber_0 {r0 : Nat} {l1 : Int32} {g3 : ab_H} {fs3 : List Value} (hr3 : (h)[r0]? = some (10, fs3)) (hm3 : MSE m_X10_says d [.ref r0, .int 32] h none g3) (kt : l1 ≤ 9 → SW sc m_X10_saysNumber (d + 1) rc rs 23 [some (.ref r0), some (.int l1)] [] g3 P) (kf : ¬ (l1 ≤ 9) → SW sc m_X10_saysNumber (d + 1) rc rs 12 [some (.ref r0), some (.int l1)] [] g3 P) : SW sc m_X10_saysNumber (d + 1) rc rs 0 [some (.ref r0), some (.int l1)] [] h P := by
  refine sw_aload_n dX10_saysNumber_0 rfl ?_
  refine sw_bipush (v := 32) dX10_saysNumber_1 (by decide) ?_
  refine sw_cV dX10_saysNumber_3 lv_X10_320 hm3 hr3 rfl (by decide) rfl rfl rfl (Nat.le_of_ble_eq_true rfl) (fun _ _ => rfl) rfl ?_
  show SW sc m_X10_saysNumber _ _ _ 6 [some (.ref r0), some (.int l1)] [] g3 P
  refine sw_iload_n dX10_saysNumber_6 rfl ?_
  refine sw_bipush (v := 9) dX10_saysNumber_7 (by decide) ?_
  exact sw_icmp_le dX10_saysNumber_9 (by decide) (fun q => (kt q)) (fun q => (kf q))
theorem b_X10_saysNumber_12 {r0 : Nat} {l1 : Int32} {g7 : ab_H} {fs7 : List Value} (hz5 : ¬ (10 : Int32) = 0) (hr7 : (h)[r0]? = some (10, fs7)) (hm7 : MSE m_X10_says d [.ref r0, .int (48 + (l1 / 10))] h none g7) (k : SW sc m_X10_saysNumber (d + 1) rc rs 23 [some (.ref r0), some (.int l1)] [] g7 P) : SW sc m_X10_saysNumber (d + 1) rc rs 12 [some (.ref r0), some (.int l1)] [] h P := by
  refine sw_aload_n dX10_saysNumber_12 rfl ?_
  refine sw_bipush (v := 48) dX10_saysNumber_13 (by decide) ?_
  refine sw_iload_n dX10_saysNumber_15 rfl ?_
  refine sw_bipush (v := 10) dX10_saysNumber_16 (by decide) ?_
  refine sw_idiv dX10_saysNumber_18 hz5 ?_
  refine sw_iadd dX10_saysNumber_19 ?_
  refine sw_cV dX10_saysNumber_20 lv_X10_320 hm7 hr7 rfl (by decide) rfl rfl rfl (Nat.le_of_ble_eq_true rfl) (fun _ _ => rfl) rfl ?_
  show SW sc m_X10_saysNumber _ _ _ 23 [some (.ref r0), some (.int l1)] [] g7 P
  exact (k)
theorem b_X10_saysNumber_23 {r0 : Nat} {l1 : Int32} {g7 : ab_H} {fs7 : List Value} (hz5 : ¬ (10 : Int32) = 0) (hr7 : (h)[r0]? = some (10, fs7)) (hm7 : MSE m_X10_says d [.ref r0, .int (48 + (l1 - l1 / 10 * 10))] h none g7) (hP : P (.inl none) g7) : SW sc m_X10_saysNumber (d + 1) rc rs 23 [some (.ref r0), some (.int l1)] [] h P := by
  refine sw_aload_n dX10_saysNumber_23 rfl ?_
  refine sw_bipush (v := 48) dX10_saysNumber_24 (by decide) ?_
  refine sw_iload_n dX10_saysNumber_26 rfl ?_
  refine sw_bipush (v := 10) dX10_saysNumber_27 (by decide) ?_
  refine sw_irem dX10_saysNumber_29 hz5 ?_
  refine sw_iadd dX10_saysNumber_30 ?_
  refine sw_cV dX10_saysNumber_31 lv_X10_320 hm7 hr7 rfl (by decide) rfl rfl rfl (Nat.le_of_ble_eq_true rfl) (fun _ _ => rfl) rfl ?_
  show SW sc m_X10_saysNumber _ _ _ 34 [some (.ref r0), some (.int l1)] [] g7 P
  exact sw_ret (v := none) dX10_saysNumber_34 rt_v hP
theorem b_X10_writeWord_0 {r0 : Nat} {l1 : Int32} {v4 : Int32} {g4 : ab_H} {fs4 : List Value} (hr4 : (h)[r0]? = some (10, fs4)) (hm4 : MSE m_X10_isComponent d [.ref r0, .int l1] h (some (.int v4)) g4) (kt : ¬ v4 = 0 → SW sc m_X10_writeWord (d + 1) rc rs 13 [some (.ref r0), some (.int l1), none, none] [.ref r0] g4 P) (kf : v4 = 0 → SW sc m_X10_writeWord (d + 1) rc rs 9 [some (.ref r0), some (.int l1), none, none] [.ref r0] g4 P) : SW sc m_X10_writeWord (d + 1) rc rs 0 [some (.ref r0), some (.int l1), none, none] [] h P := by
  refine sw_aload_n dX10_writeWord_0 rfl ?_
  refine sw_aload_n dX10_writeWord_1 rfl ?_
  refine sw_iload_n dX10_writeWord_2 rfl ?_
  refine sw_cV dX10_writeWord_3 lv_X10_295 hm4 hr4 rfl (by decide) rfl rfl rfl (Nat.le_of_ble_eq_true rfl) (fun _ _ => rfl) rfl ?_
  show SW sc m_X10_writeWord _ _ _ 6 [some (.ref r0), some (.int l1), none, none] [.int v4, .ref r0] g4 P
  exact sw_if_ne dX10_writeWord_6 (by decide) (fun q => (kt q)) (fun q => (kf q))
theorem b_X10_writeWord_9 {r0 : Nat} {l1 : Int32} {q0 : Nat} (k : SW sc m_X10_writeWord d rc rs 14 [some (.ref r0), some (.int l1), none, none] [.int 1, .ref q0] h P) : SW sc m_X10_writeWord d rc rs 9 [some (.ref r0), some (.int l1), none, none] [.ref q0] h P := by
  refine sw_iconst (v := 1) dX10_writeWord_9 (by decide) ?_
  exact sw_goto dX10_writeWord_10 (by decide) (k)
theorem b_X10_writeWord_13 {r0 : Nat} {l1 : Int32} {q0 : Nat} (k : SW sc m_X10_writeWord d rc rs 14 [some (.ref r0), some (.int l1), none, none] [.int 0, .ref q0] h P) : SW sc m_X10_writeWord d rc rs 13 [some (.ref r0), some (.int l1), none, none] [.ref q0] h P := by
  refine sw_iconst (v := 0) dX10_writeWord_13 (by decide) ?_
  exact (k)
theorem b_X10_writeWord_14 {r0 : Nat} {l1 : Int32} {q0 : Nat} {s1 : Int32} {v2 : Int32} {g2 : ab_H} {fs2 : List Value} (hr2 : (h)[q0]? = some (10, fs2)) (hm2 : MSE m_X10_fails d [.ref q0, .int s1, .int 0] h (some (.int v2)) g2) (kt : v2 = 0 → SW sc m_X10_writeWord (d + 1) rc rs 23 [some (.ref r0), some (.int l1), none, none] [] g2 P) (kf : ¬ (v2 = 0) → SW sc m_X10_writeWord (d + 1) rc rs 21 [none, none, none, none] [] g2 P) : SW sc m_X10_writeWord (d + 1) rc rs 14 [some (.ref r0), some (.int l1), none, none] [.int s1, .ref q0] h P := by
  refine sw_iconst (v := 0) dX10_writeWord_14 (by decide) ?_
  refine sw_cV dX10_writeWord_15 lv_X10_286 hm2 hr2 rfl (by decide) rfl rfl rfl (Nat.le_of_ble_eq_true rfl) (fun _ _ => rfl) rfl ?_
  show SW sc m_X10_writeWord _ _ _ 18 [some (.ref r0), some (.int l1), none, none] [.int v2] g2 P
  exact sw_if_eq dX10_writeWord_18 (by decide) (fun q => (kt q)) (fun q => (sw_fg [true, true, false, false] rfl (kf q)))
theorem b_X10_writeWord_21  (hP : P (.inl (some (.int 0))) h) : SW sc m_X10_writeWord d rc rs 21 [none, none, none, none] [] h P := by
  refine sw_iconst (v := 0) dX10_writeWord_21 (by decide) ?_
  exact sw_ret (v := (some (.int 0))) dX10_writeWord_22 rt_i hP
theorem b_X10_writeWord_23 {r0 : Nat} {l1 : Int32} {fs3 : List Value} {v7 : Int32} {g7 : ab_H} {fs7 : List Value} {v8 : Int32} {g8 : ab_H} {fs8 : List Value} {v12 : Int32} {g12 : ab_H} (hc3 : (h)[r0]? = some (10, fs3)) (hk3 : 24 < fs3.length) (hr7 : ((h).set r0 (10, fs3.set 24 (.int 0)))[r0]? = some (10, fs7)) (hm7 : MSE m_X10_componentAt d [.ref r0, .int l1] ((h).set r0 (10, fs3.set 24 (.int 0))) (some (.int v7)) g7) (hr8 : (g7)[r0]? = some (10, fs8)) (hm8 : MSE m_X10_wordOfSet d [.ref r0, .int v7] g7 (some (.int v8)) g8) (hm12 : MSE m_X10_ones d [.int v8] g8 (some (.int v12)) g12) (k : SW sc m_X10_writeWord (d + 1) rc rs 47 [some (.ref r0), none, some (.int v8), some (.int ((2 * v12) - 1))] [] g12 P) : SW sc m_X10_writeWord (d + 1) rc rs 23 [some (.ref r0), some (.int l1), none, none] [] h P := by
  refine sw_aload_n dX10_writeWord_23 rfl ?_
  refine sw_iconst (v := 0) dX10_writeWord_24 (by decide) ?_
  refine sw_putf dX10_writeWord_25 lp_X10_317 hc3 hk3 (fun _ _ => ⟨rfl, rfl⟩) ?_
  refine sw_aload_n dX10_writeWord_28 rfl ?_
  refine sw_aload_n dX10_writeWord_29 rfl ?_
  refine sw_iload_n dX10_writeWord_30 rfl ?_
  refine sw_cV dX10_writeWord_31 lv_X10_133 hm7 hr7 rfl (by decide) rfl rfl rfl (Nat.le_of_ble_eq_true rfl) (fun _ _ => rfl) rfl ?_
  show SW sc m_X10_writeWord _ _ _ 34 [some (.ref r0), some (.int l1), none, none] [.int v7, .ref r0] g7 P
  refine sw_cV dX10_writeWord_34 lv_X10_136 hm8 hr8 rfl (by decide) rfl rfl rfl (Nat.le_of_ble_eq_true rfl) (fun _ _ => rfl) rfl ?_
  show SW sc m_X10_writeWord _ _ _ 37 [some (.ref r0), some (.int l1), none, none] [.int v8] g8 P
  refine sw_istore_n dX10_writeWord_37 (by decide) rfl ?_
  show SW sc m_X10_writeWord _ _ _ 38 [some (.ref r0), some (.int l1), some (.int v8), none] [] g8 P
  refine sw_iconst (v := 2) dX10_writeWord_38 (by decide) ?_
  refine sw_iload_n dX10_writeWord_39 rfl ?_
  refine sw_cS dX10_writeWord_40 ls_X10_111 hm12 rfl rfl (Nat.le_of_ble_eq_true rfl) (fun _ _ => rfl) rfl ?_
  show SW sc m_X10_writeWord _ _ _ 43 [some (.ref r0), some (.int l1), some (.int v8), none] [.int v12, .int 2] g12 P
  refine sw_imul dX10_writeWord_43 ?_
  refine sw_iconst (v := 1) dX10_writeWord_44 (by decide) ?_
  refine sw_isub dX10_writeWord_45 ?_
  refine sw_istore_n dX10_writeWord_46 (by decide) rfl ?_
  show SW sc m_X10_writeWord _ _ _ 47 [some (.ref r0), some (.int l1), some (.int v8), some (.int ((2 * v12) - 1))] [] g12 P
  exact (sw_fg [false, true, false, false] rfl (k))
theorem b_X10_writeWord_47 {r0 : Nat} {l2 : Int32} {l3 : Int32} (kt : l3 < 0 → SW sc m_X10_writeWord d rc rs 76 [some (.ref r0), none, none, none] [] h P) (kf : ¬ (l3 < 0) → SW sc m_X10_writeWord d rc rs 51 [some (.ref r0), none, some (.int l2), some (.int l3)] [] h P) : SW sc m_X10_writeWord d rc rs 47 [some (.ref r0), none, some (.int l2), some (.int l3)] [] h P := by
  refine sw_iload_n dX10_writeWord_47 rfl ?_
  exact sw_if_lt dX10_writeWord_48 (by decide) (fun q => (sw_fg [false, false, true, true] rfl (kt q))) (fun q => (kf q))
theorem b_X10_writeWord_51 {r0 : Nat} {l2 : Int32} {l3 : Int32} {v4 : Int32} {g4 : ab_H} (hm4 : MSE m_X10_has d [.int l2, .int l3] h (some (.int v4)) g4) (kt : v4 = 0 → SW sc m_X10_writeWord (d + 1) rc rs 65 [some (.ref r0), none, some (.int l2), some (.int l3)] [.ref r0] g4 P) (kf : ¬ (v4 = 0) → SW sc m_X10_writeWord (d + 1) rc rs 60 [some (.ref r0), none, some (.int l2), some (.int l3)] [.ref r0] g4 P) : SW sc m_X10_writeWord (d + 1) rc rs 51 [some (.ref r0), none, some (.int l2), some (.int l3)] [] h P := by
  refine sw_aload_n dX10_writeWord_51 rfl ?_
  refine sw_iload_n dX10_writeWord_52 rfl ?_
  refine sw_iload_n dX10_writeWord_53 rfl ?_
  refine sw_cS dX10_writeWord_54 ls_X10_70 hm4 rfl rfl (Nat.le_of_ble_eq_true rfl) (fun _ _ => rfl) rfl ?_
  show SW sc m_X10_writeWord _ _ _ 57 [some (.ref r0), none, some (.int l2), some (.int l3)] [.int v4, .ref r0] g4 P
  exact sw_if_eq dX10_writeWord_57 (by decide) (fun q => (kt q)) (fun q => (kf q))
theorem b_X10_writeWord_60 {r0 : Nat} {l2 : Int32} {l3 : Int32} {q0 : Nat} (k : SW sc m_X10_writeWord d rc rs 67 [some (.ref r0), none, some (.int l2), some (.int l3)] [.int 41, .ref q0] h P) : SW sc m_X10_writeWord d rc rs 60 [some (.ref r0), none, some (.int l2), some (.int l3)] [.ref q0] h P := by
  refine sw_bipush (v := 41) dX10_writeWord_60 (by decide) ?_
  exact sw_goto dX10_writeWord_62 (by decide) (k)
theorem b_X10_writeWord_65 {r0 : Nat} {l2 : Int32} {l3 : Int32} {q0 : Nat} (k : SW sc m_X10_writeWord d rc rs 67 [some (.ref r0), none, some (.int l2), some (.int l3)] [.int 40, .ref q0] h P) : SW sc m_X10_writeWord d rc rs 65 [some (.ref r0), none, some (.int l2), some (.int l3)] [.ref q0] h P := by
  refine sw_bipush (v := 40) dX10_writeWord_65 (by decide) ?_
  exact (k)
theorem b_X10_writeWord_67 {r0 : Nat} {l2 : Int32} {l3 : Int32} {q0 : Nat} {s1 : Int32} {g1 : ab_H} {fs1 : List Value} (hr1 : (h)[q0]? = some (10, fs1)) (hm1 : MSE m_X10_says d [.ref q0, .int s1] h none g1) (k : SW sc m_X10_writeWord (d + 1) rc rs 47 [some (.ref r0), none, some (.int l2), some (.int (l3 + (-1)))] [] g1 P) : SW sc m_X10_writeWord (d + 1) rc rs 67 [some (.ref r0), none, some (.int l2), some (.int l3)] [.int s1, .ref q0] h P := by
  refine sw_cV dX10_writeWord_67 lv_X10_320 hm1 hr1 rfl (by decide) rfl rfl rfl (Nat.le_of_ble_eq_true rfl) (fun _ _ => rfl) rfl ?_
  show SW sc m_X10_writeWord _ _ _ 70 [some (.ref r0), none, some (.int l2), some (.int l3)] [] g1 P
  refine sw_iinc (v := l3 + (-1)) dX10_writeWord_70 rfl rfl (by decide) rfl ?_
  show SW sc m_X10_writeWord _ _ _ 73 [some (.ref r0), none, some (.int l2), some (.int (l3 + (-1)))] [] g1 P
  exact sw_goto dX10_writeWord_73 (by decide) (k)
theorem b_X10_writeWord_76 {r0 : Nat} {fs2 : List Value} {x2 : Int32} (hc2 : (h)[r0]? = some (10, fs2)) (hv2 : fs2[24]? = some (.int x2)) (hP : P (.inl (some (.int x2))) h) : SW sc m_X10_writeWord d rc rs 76 [some (.ref r0), none, none, none] [] h P := by
  refine sw_aload_n dX10_writeWord_76 rfl ?_
  refine sw_getf dX10_writeWord_77 lf_X10_317 hc2 hv2 ?_
  exact sw_ret (v := (some (.int x2))) dX10_writeWord_80 rt_i hP
theorem b_X10_writeText_0 {r0 : Nat} {fs3 : List Value} {fs6 : List Value} {g9 : ab_H} {fs9 : List Value} {fs12 : List Value} {x12 : Int32} {g13 : ab_H} {fs13 : List Value} {g16 : ab_H} {fs16 : List Value} (hc3 : (h)[r0]? = some (10, fs3)) (hk3 : 0 < fs3.length) (hc6 : ((h).set r0 (10, fs3.set 0 (.int 0)))[r0]? = some (10, fs6)) (hk6 : 24 < fs6.length) (hr9 : (((h).set r0 (10, fs3.set 0 (.int 0))).set r0 (10, fs6.set 24 (.int 0)))[r0]? = some (10, fs9)) (hm9 : MSE m_X10_saysWord d [.ref r0, .retAddr 0] (((h).set r0 (10, fs3.set 0 (.int 0))).set r0 (10, fs6.set 24 (.int 0))) none g9) (hc12 : (g9)[r0]? = some (10, fs12)) (hv12 : fs12[6]? = some (.int x12)) (hr13 : (g9)[r0]? = some (10, fs13)) (hm13 : MSE m_X10_saysNumber d [.ref r0, .int x12] g9 none g13) (hr16 : (g13)[r0]? = some (10, fs16)) (hm16 : MSE m_X10_says d [.ref r0, .int 59] g13 none g16) (k : SW sc m_X10_writeText (d + 1) rc rs 32 [some (.ref r0), some (.int 0), none] [] g16 P) : SW sc m_X10_writeText (d + 1) rc rs 0 [some (.ref r0), none, none] [] h P := by
  refine sw_aload_n dX10_writeText_0 rfl ?_
  refine sw_iconst (v := 0) dX10_writeText_1 (by decide) ?_
  refine sw_putf dX10_writeText_2 lp_X10_1 hc3 hk3 (fun _ _ => ⟨rfl, rfl⟩) ?_
  refine sw_aload_n dX10_writeText_5 rfl ?_
  refine sw_iconst (v := 0) dX10_writeText_6 (by decide) ?_
  refine sw_putf dX10_writeText_7 lp_X10_317 hc6 hk6 (fun _ _ => ⟨rfl, rfl⟩) ?_
  refine sw_aload_n dX10_writeText_10 rfl ?_
  refine sw_ldc (t := 0) dX10_writeText_11 sr_X10_251 rfl ?_
  refine sw_cV dX10_writeText_13 lv_X10_323 hm9 hr9 rfl (by decide) rfl rfl rfl (Nat.le_of_ble_eq_true rfl) (fun _ _ => rfl) rfl ?_
  show SW sc m_X10_writeText _ _ _ 16 [some (.ref r0), none, none] [] g9 P
  refine sw_aload_n dX10_writeText_16 rfl ?_
  refine sw_aload_n dX10_writeText_17 rfl ?_
  refine sw_getf dX10_writeText_18 lf_X10_35 hc12 hv12 ?_
  refine sw_cV dX10_writeText_21 lv_X10_327 hm13 hr13 rfl (by decide) rfl rfl rfl (Nat.le_of_ble_eq_true rfl) (fun _ _ => rfl) rfl ?_
  show SW sc m_X10_writeText _ _ _ 24 [some (.ref r0), none, none] [] g13 P
  refine sw_aload_n dX10_writeText_24 rfl ?_
  refine sw_bipush (v := 59) dX10_writeText_25 (by decide) ?_
  refine sw_cV dX10_writeText_27 lv_X10_320 hm16 hr16 rfl (by decide) rfl rfl rfl (Nat.le_of_ble_eq_true rfl) (fun _ _ => rfl) rfl ?_
  show SW sc m_X10_writeText _ _ _ 30 [some (.ref r0), none, none] [] g16 P
  refine sw_iconst (v := 0) dX10_writeText_30 (by decide) ?_
  refine sw_istore_n dX10_writeText_31 (by decide) rfl ?_
  show SW sc m_X10_writeText _ _ _ 32 [some (.ref r0), some (.int 0), none] [] g16 P
  exact (k)
theorem b_X10_writeText_32 {r0 : Nat} {l1 : Int32} {fs3 : List Value} {x3 : Int32} (hc3 : (h)[r0]? = some (10, fs3)) (hv3 : fs3[6]? = some (.int x3)) (kt : x3 ≤ l1 → SW sc m_X10_writeText d rc rs 102 [some (.ref r0), none, none] [] h P) (kf : ¬ (x3 ≤ l1) → SW sc m_X10_writeText d rc rs 40 [some (.ref r0), some (.int l1), none] [] h P) : SW sc m_X10_writeText d rc rs 32 [some (.ref r0), some (.int l1), none] [] h P := by
  refine sw_iload_n dX10_writeText_32 rfl ?_
  refine sw_aload_n dX10_writeText_33 rfl ?_
  refine sw_getf dX10_writeText_34 lf_X10_35 hc3 hv3 ?_
  exact sw_icmp_ge dX10_writeText_37 (by decide) (fun q => (sw_fg [false, true, false] rfl (kt q))) (fun q => (kf q))
theorem b_X10_writeText_40 {r0 : Nat} {l1 : Int32} (k : SW sc m_X10_writeText d rc rs 44 [some (.ref r0), some (.int l1), some (.int (l1 + 1))] [] h P) : SW sc m_X10_writeText d rc rs 40 [some (.ref r0), some (.int l1), none] [] h P := by
  refine sw_iload_n dX10_writeText_40 rfl ?_
  refine sw_iconst (v := 1) dX10_writeText_41 (by decide) ?_
  refine sw_iadd dX10_writeText_42 ?_
  refine sw_istore_n dX10_writeText_43 (by decide) rfl ?_
  show SW sc m_X10_writeText _ _ _ 44 [some (.ref r0), some (.int l1), some (.int (l1 + 1))] [] h P
  exact (k)
theorem b_X10_writeText_44 {r0 : Nat} {l1 : Int32} {l2 : Int32} {fs3 : List Value} {x3 : Int32} (hc3 : (h)[r0]? = some (10, fs3)) (hv3 : fs3[6]? = some (.int x3)) (kt : x3 ≤ l2 → SW sc m_X10_writeText d rc rs 96 [some (.ref r0), some (.int l1), none] [] h P) (kf : ¬ (x3 ≤ l2) → SW sc m_X10_writeText d rc rs 52 [some (.ref r0), some (.int l1), some (.int l2)] [] h P) : SW sc m_X10_writeText d rc rs 44 [some (.ref r0), some (.int l1), some (.int l2)] [] h P := by
  refine sw_iload_n dX10_writeText_44 rfl ?_
  refine sw_aload_n dX10_writeText_45 rfl ?_
  refine sw_getf dX10_writeText_46 lf_X10_35 hc3 hv3 ?_
  exact sw_icmp_ge dX10_writeText_49 (by decide) (fun q => (sw_fg [false, false, true] rfl (kt q))) (fun q => (kf q))
theorem b_X10_writeText_52 {r0 : Nat} {l1 : Int32} {l2 : Int32} {fs2 : List Value} {a2 : Nat} {vs4 : List Value} {x4 : Int32} {v6 : Int32} {g6 : ab_H} (hc2 : (h)[r0]? = some (10, fs2)) (hv2 : fs2[1]? = some (.ref a2)) (hc4 : (h)[a2]? = some (100, vs4)) (ho4 : ¬ l1 < 0) (hi4 : vs4[l1.toNatClampNeg]? = some (.int x4)) (hm6 : MSE m_X10_has d [.int x4, .int l2] h (some (.int v6)) g6) (kt : ¬ v6 = 0 → SW sc m_X10_writeText (d + 1) rc rs 68 [some (.ref r0), some (.int l1), some (.int l2)] [] g6 P) (kf : v6 = 0 → SW sc m_X10_writeText (d + 1) rc rs 65 [some (.ref r0), some (.int l1), some (.int l2)] [] g6 P) : SW sc m_X10_writeText (d + 1) rc rs 52 [some (.ref r0), some (.int l1), some (.int l2)] [] h P := by
  refine sw_aload_n dX10_writeText_52 rfl ?_
  refine sw_getf dX10_writeText_53 lf_X10_19 hc2 hv2 ?_
  refine sw_iload_n dX10_writeText_56 rfl ?_
  refine sw_iald dX10_writeText_57 hc4 ho4 hi4 ?_
  refine sw_iload_n dX10_writeText_58 rfl ?_
  refine sw_cS dX10_writeText_59 ls_X10_70 hm6 rfl rfl (Nat.le_of_ble_eq_true rfl) (fun _ _ => rfl) rfl ?_
  show SW sc m_X10_writeText _ _ _ 62 [some (.ref r0), some (.int l1), some (.int l2)] [.int v6] g6 P
  exact sw_if_ne dX10_writeText_62 (by decide) (fun q => (kt q)) (fun q => (kf q))
theorem b_X10_writeText_65 {r0 : Nat} {l1 : Int32} {l2 : Int32} (k : SW sc m_X10_writeText d rc rs 90 [some (.ref r0), some (.int l1), some (.int l2)] [] h P) : SW sc m_X10_writeText d rc rs 65 [some (.ref r0), some (.int l1), some (.int l2)] [] h P := by
  exact sw_goto dX10_writeText_65 (by decide) (k)
theorem b_X10_writeText_68 {r0 : Nat} {l1 : Int32} {l2 : Int32} {g3 : ab_H} {fs3 : List Value} {g6 : ab_H} {fs6 : List Value} {g9 : ab_H} {fs9 : List Value} {g12 : ab_H} {fs12 : List Value} (hr3 : (h)[r0]? = some (10, fs3)) (hm3 : MSE m_X10_saysWord d [.ref r0, .retAddr 1] h none g3) (hr6 : (g3)[r0]? = some (10, fs6)) (hm6 : MSE m_X10_saysNumber d [.ref r0, .int l1] g3 none g6) (hr9 : (g6)[r0]? = some (10, fs9)) (hm9 : MSE m_X10_saysNumber d [.ref r0, .int l2] g6 none g9) (hr12 : (g9)[r0]? = some (10, fs12)) (hm12 : MSE m_X10_says d [.ref r0, .int 59] g9 none g12) (k : SW sc m_X10_writeText (d + 1) rc rs 90 [some (.ref r0), some (.int l1), some (.int l2)] [] g12 P) : SW sc m_X10_writeText (d + 1) rc rs 68 [some (.ref r0), some (.int l1), some (.int l2)] [] h P := by
  refine sw_aload_n dX10_writeText_68 rfl ?_
  refine sw_ldc (t := 1) dX10_writeText_69 sr_X10_228 rfl ?_
  refine sw_cV dX10_writeText_71 lv_X10_323 hm3 hr3 rfl (by decide) rfl rfl rfl (Nat.le_of_ble_eq_true rfl) (fun _ _ => rfl) rfl ?_
  show SW sc m_X10_writeText _ _ _ 74 [some (.ref r0), some (.int l1), some (.int l2)] [] g3 P
  refine sw_aload_n dX10_writeText_74 rfl ?_
  refine sw_iload_n dX10_writeText_75 rfl ?_
  refine sw_cV dX10_writeText_76 lv_X10_327 hm6 hr6 rfl (by decide) rfl rfl rfl (Nat.le_of_ble_eq_true rfl) (fun _ _ => rfl) rfl ?_
  show SW sc m_X10_writeText _ _ _ 79 [some (.ref r0), some (.int l1), some (.int l2)] [] g6 P
  refine sw_aload_n dX10_writeText_79 rfl ?_
  refine sw_iload_n dX10_writeText_80 rfl ?_
  refine sw_cV dX10_writeText_81 lv_X10_327 hm9 hr9 rfl (by decide) rfl rfl rfl (Nat.le_of_ble_eq_true rfl) (fun _ _ => rfl) rfl ?_
  show SW sc m_X10_writeText _ _ _ 84 [some (.ref r0), some (.int l1), some (.int l2)] [] g9 P
  refine sw_aload_n dX10_writeText_84 rfl ?_
  refine sw_bipush (v := 59) dX10_writeText_85 (by decide) ?_
  refine sw_cV dX10_writeText_87 lv_X10_320 hm12 hr12 rfl (by decide) rfl rfl rfl (Nat.le_of_ble_eq_true rfl) (fun _ _ => rfl) rfl ?_
  show SW sc m_X10_writeText _ _ _ 90 [some (.ref r0), some (.int l1), some (.int l2)] [] g12 P
  exact (k)
theorem b_X10_writeText_90 {r0 : Nat} {l1 : Int32} {l2 : Int32} (k : SW sc m_X10_writeText d rc rs 44 [some (.ref r0), some (.int l1), some (.int (l2 + 1))] [] h P) : SW sc m_X10_writeText d rc rs 90 [some (.ref r0), some (.int l1), some (.int l2)] [] h P := by
  refine sw_iinc (v := l2 + 1) dX10_writeText_90 rfl rfl (by decide) rfl ?_
  show SW sc m_X10_writeText _ _ _ 93 [some (.ref r0), some (.int l1), some (.int (l2 + 1))] [] h P
  exact sw_goto dX10_writeText_93 (by decide) (k)
theorem b_X10_writeText_96 {r0 : Nat} {l1 : Int32} (k : SW sc m_X10_writeText d rc rs 32 [some (.ref r0), some (.int (l1 + 1)), none] [] h P) : SW sc m_X10_writeText d rc rs 96 [some (.ref r0), some (.int l1), none] [] h P := by
  refine sw_iinc (v := l1 + 1) dX10_writeText_96 rfl rfl (by decide) rfl ?_
  show SW sc m_X10_writeText _ _ _ 99 [some (.ref r0), some (.int (l1 + 1)), none] [] h P
  exact sw_goto dX10_writeText_99 (by decide) (k)
theorem b_X10_writeText_102 {r0 : Nat} (k : SW sc m_X10_writeText d rc rs 104 [some (.ref r0), some (.int 0), none] [] h P) : SW sc m_X10_writeText d rc rs 102 [some (.ref r0), none, none] [] h P := by
  refine sw_iconst (v := 0) dX10_writeText_102 (by decide) ?_
  refine sw_istore_n dX10_writeText_103 (by decide) rfl ?_
  show SW sc m_X10_writeText _ _ _ 104 [some (.ref r0), some (.int 0), none] [] h P
  exact (k)
theorem b_X10_writeText_104 {r0 : Nat} {l1 : Int32} {fs3 : List Value} {x3 : Int32} (hc3 : (h)[r0]? = some (10, fs3)) (hv3 : fs3[6]? = some (.int x3)) (kt : x3 ≤ l1 → SW sc m_X10_writeText d rc rs 164 [some (.ref r0), none, none] [] h P) (kf : ¬ (x3 ≤ l1) → SW sc m_X10_writeText d rc rs 112 [some (.ref r0), some (.int l1), none] [] h P) : SW sc m_X10_writeText d rc rs 104 [some (.ref r0), some (.int l1), none] [] h P := by
  refine sw_iload_n dX10_writeText_104 rfl ?_
  refine sw_aload_n dX10_writeText_105 rfl ?_
  refine sw_getf dX10_writeText_106 lf_X10_35 hc3 hv3 ?_
  exact sw_icmp_ge dX10_writeText_109 (by decide) (fun q => (sw_fg [false, true, false] rfl (kt q))) (fun q => (kf q))
theorem b_X10_writeText_112 {r0 : Nat} {l1 : Int32} {fs2 : List Value} {a2 : Nat} {vs6 : List Value} {x6 : Int32} (hc2 : (h)[r0]? = some (10, fs2)) (hv2 : fs2[1]? = some (.ref a2)) (hc6 : (h)[a2]? = some (100, vs6)) (ho6 : ¬ (10 + l1) < 0) (hi6 : vs6[(10 + l1).toNatClampNeg]? = some (.int x6)) (kt : ¬ x6 = 1 → SW sc m_X10_writeText d rc rs 128 [some (.ref r0), some (.int l1), none] [] h P) (kf : x6 = 1 → SW sc m_X10_writeText d rc rs 125 [some (.ref r0), some (.int l1), none] [] h P) : SW sc m_X10_writeText d rc rs 112 [some (.ref r0), some (.int l1), none] [] h P := by
  refine sw_aload_n dX10_writeText_112 rfl ?_
  refine sw_getf dX10_writeText_113 lf_X10_19 hc2 hv2 ?_
  refine sw_bipush (v := 10) dX10_writeText_116 (by decide) ?_
  refine sw_iload_n dX10_writeText_118 rfl ?_
  refine sw_iadd dX10_writeText_119 ?_
  refine sw_iald dX10_writeText_120 hc6 ho6 hi6 ?_
  refine sw_iconst (v := 1) dX10_writeText_121 (by decide) ?_
  exact sw_icmp_ne dX10_writeText_122 (by decide) (fun q => (kt q)) (fun q => (kf q))
theorem b_X10_writeText_125 {r0 : Nat} {l1 : Int32} (k : SW sc m_X10_writeText d rc rs 158 [some (.ref r0), some (.int l1), none] [] h P) : SW sc m_X10_writeText d rc rs 125 [some (.ref r0), some (.int l1), none] [] h P := by
  exact sw_goto dX10_writeText_125 (by decide) (k)
theorem b_X10_writeText_128 {r0 : Nat} {l1 : Int32} {g3 : ab_H} {fs3 : List Value} {g6 : ab_H} {fs6 : List Value} {fs9 : List Value} {a9 : Nat} {vs13 : List Value} {x13 : Int32} {g14 : ab_H} {fs14 : List Value} {g17 : ab_H} {fs17 : List Value} (hr3 : (h)[r0]? = some (10, fs3)) (hm3 : MSE m_X10_saysWord d [.ref r0, .retAddr 5] h none g3) (hr6 : (g3)[r0]? = some (10, fs6)) (hm6 : MSE m_X10_saysNumber d [.ref r0, .int l1] g3 none g6) (hc9 : (g6)[r0]? = some (10, fs9)) (hv9 : fs9[1]? = some (.ref a9)) (hc13 : (g6)[a9]? = some (100, vs13)) (ho13 : ¬ (10 + l1) < 0) (hi13 : vs13[(10 + l1).toNatClampNeg]? = some (.int x13)) (hr14 : (g6)[r0]? = some (10, fs14)) (hm14 : MSE m_X10_saysNumber d [.ref r0, .int x13] g6 none g14) (hr17 : (g14)[r0]? = some (10, fs17)) (hm17 : MSE m_X10_says d [.ref r0, .int 59] g14 none g17) (k : SW sc m_X10_writeText (d + 1) rc rs 158 [some (.ref r0), some (.int l1), none] [] g17 P) : SW sc m_X10_writeText (d + 1) rc rs 128 [some (.ref r0), some (.int l1), none] [] h P := by
  refine sw_aload_n dX10_writeText_128 rfl ?_
  refine sw_ldc (t := 5) dX10_writeText_129 sr_X10_246 rfl ?_
  refine sw_cV dX10_writeText_131 lv_X10_323 hm3 hr3 rfl (by decide) rfl rfl rfl (Nat.le_of_ble_eq_true rfl) (fun _ _ => rfl) rfl ?_
  show SW sc m_X10_writeText _ _ _ 134 [some (.ref r0), some (.int l1), none] [] g3 P
  refine sw_aload_n dX10_writeText_134 rfl ?_
  refine sw_iload_n dX10_writeText_135 rfl ?_
  refine sw_cV dX10_writeText_136 lv_X10_327 hm6 hr6 rfl (by decide) rfl rfl rfl (Nat.le_of_ble_eq_true rfl) (fun _ _ => rfl) rfl ?_
  show SW sc m_X10_writeText _ _ _ 139 [some (.ref r0), some (.int l1), none] [] g6 P
  refine sw_aload_n dX10_writeText_139 rfl ?_
  refine sw_aload_n dX10_writeText_140 rfl ?_
  refine sw_getf dX10_writeText_141 lf_X10_19 hc9 hv9 ?_
  refine sw_bipush (v := 10) dX10_writeText_144 (by decide) ?_
  refine sw_iload_n dX10_writeText_146 rfl ?_
  refine sw_iadd dX10_writeText_147 ?_
  refine sw_iald dX10_writeText_148 hc13 ho13 hi13 ?_
  refine sw_cV dX10_writeText_149 lv_X10_327 hm14 hr14 rfl (by decide) rfl rfl rfl (Nat.le_of_ble_eq_true rfl) (fun _ _ => rfl) rfl ?_
  show SW sc m_X10_writeText _ _ _ 152 [some (.ref r0), some (.int l1), none] [] g14 P
  refine sw_aload_n dX10_writeText_152 rfl ?_
  refine sw_bipush (v := 59) dX10_writeText_153 (by decide) ?_
  refine sw_cV dX10_writeText_155 lv_X10_320 hm17 hr17 rfl (by decide) rfl rfl rfl (Nat.le_of_ble_eq_true rfl) (fun _ _ => rfl) rfl ?_
  show SW sc m_X10_writeText _ _ _ 158 [some (.ref r0), some (.int l1), none] [] g17 P
  exact (k)
theorem b_X10_writeText_158 {r0 : Nat} {l1 : Int32} (k : SW sc m_X10_writeText d rc rs 104 [some (.ref r0), some (.int (l1 + 1)), none] [] h P) : SW sc m_X10_writeText d rc rs 158 [some (.ref r0), some (.int l1), none] [] h P := by
  refine sw_iinc (v := l1 + 1) dX10_writeText_158 rfl rfl (by decide) rfl ?_
  show SW sc m_X10_writeText _ _ _ 161 [some (.ref r0), some (.int (l1 + 1)), none] [] h P
  exact sw_goto dX10_writeText_161 (by decide) (k)
theorem b_X10_writeText_164 {r0 : Nat} {fs2 : List Value} {x2 : Int32} (hc2 : (h)[r0]? = some (10, fs2)) (hv2 : fs2[24]? = some (.int x2)) (hP : P (.inl (some (.int x2))) h) : SW sc m_X10_writeText d rc rs 164 [some (.ref r0), none, none] [] h P := by
  refine sw_aload_n dX10_writeText_164 rfl ?_
  refine sw_getf dX10_writeText_165 lf_X10_317 hc2 hv2 ?_
  exact sw_ret (v := (some (.int x2))) dX10_writeText_168 rt_i hP
theorem b_X10_outputByte_0 {r0 : Nat} {l1 : Int32} {fs5 : List Value} {x5 : Int32} {v8 : Int32} {g8 : ab_H} (hc5 : (h)[r0]? = some (10, fs5)) (hv5 : fs5[24]? = some (.int x5)) (hm8 : MSE m_X10_isIn d [.int l1, .int 0, .int (x5 - 1)] h (some (.int v8)) g8) (kt : ¬ v8 = 0 → SW sc m_X10_outputByte (d + 1) rc rs 19 [some (.ref r0), some (.int l1)] [.ref r0] g8 P) (kf : v8 = 0 → SW sc m_X10_outputByte (d + 1) rc rs 15 [some (.ref r0), some (.int l1)] [.ref r0] g8 P) : SW sc m_X10_outputByte (d + 1) rc rs 0 [some (.ref r0), some (.int l1)] [] h P := by
  refine sw_aload_n dX10_outputByte_0 rfl ?_
  refine sw_iload_n dX10_outputByte_1 rfl ?_
  refine sw_iconst (v := 0) dX10_outputByte_2 (by decide) ?_
  refine sw_aload_n dX10_outputByte_3 rfl ?_
  refine sw_getf dX10_outputByte_4 lf_X10_317 hc5 hv5 ?_
  refine sw_iconst (v := 1) dX10_outputByte_7 (by decide) ?_
  refine sw_isub dX10_outputByte_8 ?_
  refine sw_cS dX10_outputByte_9 ls_X10_153 hm8 rfl rfl (Nat.le_of_ble_eq_true rfl) (fun _ _ => rfl) rfl ?_
  show SW sc m_X10_outputByte _ _ _ 12 [some (.ref r0), some (.int l1)] [.int v8, .ref r0] g8 P
  exact sw_if_ne dX10_outputByte_12 (by decide) (fun q => (kt q)) (fun q => (kf q))
theorem b_X10_outputByte_15 {r0 : Nat} {l1 : Int32} {q0 : Nat} (k : SW sc m_X10_outputByte d rc rs 20 [some (.ref r0), some (.int l1)] [.int 1, .ref q0] h P) : SW sc m_X10_outputByte d rc rs 15 [some (.ref r0), some (.int l1)] [.ref q0] h P := by
  refine sw_iconst (v := 1) dX10_outputByte_15 (by decide) ?_
  exact sw_goto dX10_outputByte_16 (by decide) (k)
theorem b_X10_outputByte_19 {r0 : Nat} {l1 : Int32} {q0 : Nat} (k : SW sc m_X10_outputByte d rc rs 20 [some (.ref r0), some (.int l1)] [.int 0, .ref q0] h P) : SW sc m_X10_outputByte d rc rs 19 [some (.ref r0), some (.int l1)] [.ref q0] h P := by
  refine sw_iconst (v := 0) dX10_outputByte_19 (by decide) ?_
  exact (k)
theorem b_X10_outputByte_20 {r0 : Nat} {l1 : Int32} {q0 : Nat} {s1 : Int32} {v2 : Int32} {g2 : ab_H} {fs2 : List Value} (hr2 : (h)[q0]? = some (10, fs2)) (hm2 : MSE m_X10_fails d [.ref q0, .int s1, .int 0] h (some (.int v2)) g2) (kt : v2 = 0 → SW sc m_X10_outputByte (d + 1) rc rs 31 [some (.ref r0), some (.int l1)] [] g2 P) (kf : ¬ (v2 = 0) → SW sc m_X10_outputByte (d + 1) rc rs 27 [none, none] [] g2 P) : SW sc m_X10_outputByte (d + 1) rc rs 20 [some (.ref r0), some (.int l1)] [.int s1, .ref q0] h P := by
  refine sw_iconst (v := 0) dX10_outputByte_20 (by decide) ?_
  refine sw_cV dX10_outputByte_21 lv_X10_286 hm2 hr2 rfl (by decide) rfl rfl rfl (Nat.le_of_ble_eq_true rfl) (fun _ _ => rfl) rfl ?_
  show SW sc m_X10_outputByte _ _ _ 24 [some (.ref r0), some (.int l1)] [.int v2] g2 P
  exact sw_if_eq dX10_outputByte_24 (by decide) (fun q => (kt q)) (fun q => (sw_fg [true, true] rfl (kf q)))
theorem b_X10_outputByte_27  (k : SW sc m_X10_outputByte d rc rs 37 [none, none] [.int 0] h P) : SW sc m_X10_outputByte d rc rs 27 [none, none] [] h P := by
  refine sw_iconst (v := 0) dX10_outputByte_27 (by decide) ?_
  exact sw_goto dX10_outputByte_28 (by decide) (k)
theorem b_X10_outputByte_31 {r0 : Nat} {l1 : Int32} {fs2 : List Value} {a2 : Nat} {vs4 : List Value} {x4 : Int32} (hc2 : (h)[r0]? = some (10, fs2)) (hv2 : fs2[23]? = some (.ref a2)) (hc4 : (h)[a2]? = some (100, vs4)) (ho4 : ¬ l1 < 0) (hi4 : vs4[l1.toNatClampNeg]? = some (.int x4)) (k : SW sc m_X10_outputByte d rc rs 37 [none, none] [.int x4] h P) : SW sc m_X10_outputByte d rc rs 31 [some (.ref r0), some (.int l1)] [] h P := by
  refine sw_aload_n dX10_outputByte_31 rfl ?_
  refine sw_getf dX10_outputByte_32 lf_X10_47 hc2 hv2 ?_
  refine sw_iload_n dX10_outputByte_35 rfl ?_
  refine sw_iald dX10_outputByte_36 hc4 ho4 hi4 ?_
  exact (sw_fg [true, true] rfl (k))
theorem b_X10_outputByte_37 {s0 : Int32} (hP : P (.inl (some (.int s0))) h) : SW sc m_X10_outputByte d rc rs 37 [none, none] [.int s0] h P := by
  exact sw_ret (v := (some (.int s0))) dX10_outputByte_37 rt_i hP
theorem b_X10_symmetries_0 {r0 : Nat} {l1 : Int32} {v4 : Int32} {g4 : ab_H} {fs4 : List Value} (hr4 : (h)[r0]? = some (10, fs4)) (hm4 : MSE m_X10_isComponent d [.ref r0, .int l1] h (some (.int v4)) g4) (kt : ¬ v4 = 0 → SW sc m_X10_symmetries (d + 1) rc rs 13 [some (.ref r0), some (.int l1)] [.ref r0] g4 P) (kf : v4 = 0 → SW sc m_X10_symmetries (d + 1) rc rs 9 [some (.ref r0), some (.int l1)] [.ref r0] g4 P) : SW sc m_X10_symmetries (d + 1) rc rs 0 [some (.ref r0), some (.int l1)] [] h P := by
  refine sw_aload_n dX10_symmetries_0 rfl ?_
  refine sw_aload_n dX10_symmetries_1 rfl ?_
  refine sw_iload_n dX10_symmetries_2 rfl ?_
  refine sw_cV dX10_symmetries_3 lv_X10_295 hm4 hr4 rfl (by decide) rfl rfl rfl (Nat.le_of_ble_eq_true rfl) (fun _ _ => rfl) rfl ?_
  show SW sc m_X10_symmetries _ _ _ 6 [some (.ref r0), some (.int l1)] [.int v4, .ref r0] g4 P
  exact sw_if_ne dX10_symmetries_6 (by decide) (fun q => (kt q)) (fun q => (kf q))
theorem b_X10_symmetries_9 {r0 : Nat} {l1 : Int32} {q0 : Nat} (k : SW sc m_X10_symmetries d rc rs 14 [some (.ref r0), some (.int l1)] [.int 1, .ref q0] h P) : SW sc m_X10_symmetries d rc rs 9 [some (.ref r0), some (.int l1)] [.ref q0] h P := by
  refine sw_iconst (v := 1) dX10_symmetries_9 (by decide) ?_
  exact sw_goto dX10_symmetries_10 (by decide) (k)
theorem b_X10_symmetries_13 {r0 : Nat} {l1 : Int32} {q0 : Nat} (k : SW sc m_X10_symmetries d rc rs 14 [some (.ref r0), some (.int l1)] [.int 0, .ref q0] h P) : SW sc m_X10_symmetries d rc rs 13 [some (.ref r0), some (.int l1)] [.ref q0] h P := by
  refine sw_iconst (v := 0) dX10_symmetries_13 (by decide) ?_
  exact (k)
theorem b_X10_symmetries_14 {r0 : Nat} {l1 : Int32} {q0 : Nat} {s1 : Int32} {v2 : Int32} {g2 : ab_H} {fs2 : List Value} (hr2 : (h)[q0]? = some (10, fs2)) (hm2 : MSE m_X10_fails d [.ref q0, .int s1, .int 0] h (some (.int v2)) g2) (kt : v2 = 0 → SW sc m_X10_symmetries (d + 1) rc rs 25 [some (.ref r0), some (.int l1)] [] g2 P) (kf : ¬ (v2 = 0) → SW sc m_X10_symmetries (d + 1) rc rs 21 [none, none] [] g2 P) : SW sc m_X10_symmetries (d + 1) rc rs 14 [some (.ref r0), some (.int l1)] [.int s1, .ref q0] h P := by
  refine sw_iconst (v := 0) dX10_symmetries_14 (by decide) ?_
  refine sw_cV dX10_symmetries_15 lv_X10_286 hm2 hr2 rfl (by decide) rfl rfl rfl (Nat.le_of_ble_eq_true rfl) (fun _ _ => rfl) rfl ?_
  show SW sc m_X10_symmetries _ _ _ 18 [some (.ref r0), some (.int l1)] [.int v2] g2 P
  exact sw_if_eq dX10_symmetries_18 (by decide) (fun q => (kt q)) (fun q => (sw_fg [true, true] rfl (kf q)))
theorem b_X10_symmetries_21  (k : SW sc m_X10_symmetries d rc rs 34 [none, none] [.int 0] h P) : SW sc m_X10_symmetries d rc rs 21 [none, none] [] h P := by
  refine sw_iconst (v := 0) dX10_symmetries_21 (by decide) ?_
  exact sw_goto dX10_symmetries_22 (by decide) (k)
theorem b_X10_symmetries_25 {r0 : Nat} {l1 : Int32} {v4 : Int32} {g4 : ab_H} {fs4 : List Value} {v5 : Int32} {g5 : ab_H} {fs5 : List Value} (hr4 : (h)[r0]? = some (10, fs4)) (hm4 : MSE m_X10_componentAt d [.ref r0, .int l1] h (some (.int v4)) g4) (hr5 : (g4)[r0]? = some (10, fs5)) (hm5 : MSE m_X10_symmetriesOf d [.ref r0, .int v4] g4 (some (.int v5)) g5) (k : SW sc m_X10_symmetries (d + 1) rc rs 34 [none, none] [.int v5] g5 P) : SW sc m_X10_symmetries (d + 1) rc rs 25 [some (.ref r0), some (.int l1)] [] h P := by
  refine sw_aload_n dX10_symmetries_25 rfl ?_
  refine sw_aload_n dX10_symmetries_26 rfl ?_
  refine sw_iload_n dX10_symmetries_27 rfl ?_
  refine sw_cV dX10_symmetries_28 lv_X10_133 hm4 hr4 rfl (by decide) rfl rfl rfl (Nat.le_of_ble_eq_true rfl) (fun _ _ => rfl) rfl ?_
  show SW sc m_X10_symmetries _ _ _ 31 [some (.ref r0), some (.int l1)] [.int v4, .ref r0] g4 P
  refine sw_cV dX10_symmetries_31 lv_X10_330 hm5 hr5 rfl (by decide) rfl rfl rfl (Nat.le_of_ble_eq_true rfl) (fun _ _ => rfl) rfl ?_
  show SW sc m_X10_symmetries _ _ _ 34 [some (.ref r0), some (.int l1)] [.int v5] g5 P
  exact (sw_fg [true, true] rfl (k))
theorem b_X10_symmetries_34 {s0 : Int32} (hP : P (.inl (some (.int s0))) h) : SW sc m_X10_symmetries d rc rs 34 [none, none] [.int s0] h P := by
  exact sw_ret (v := (some (.int s0))) dX10_symmetries_34 rt_i hP
theorem b_X10_labellings_0 {r0 : Nat} {l1 : Int32} {v4 : Int32} {g4 : ab_H} {fs4 : List Value} (hr4 : (h)[r0]? = some (10, fs4)) (hm4 : MSE m_X10_isComponent d [.ref r0, .int l1] h (some (.int v4)) g4) (kt : ¬ v4 = 0 → SW sc m_X10_labellings (d + 1) rc rs 13 [some (.ref r0), some (.int l1), none] [.ref r0] g4 P) (kf : v4 = 0 → SW sc m_X10_labellings (d + 1) rc rs 9 [some (.ref r0), some (.int l1), none] [.ref r0] g4 P) : SW sc m_X10_labellings (d + 1) rc rs 0 [some (.ref r0), some (.int l1), none] [] h P := by
  refine sw_aload_n dX10_labellings_0 rfl ?_
  refine sw_aload_n dX10_labellings_1 rfl ?_
  refine sw_iload_n dX10_labellings_2 rfl ?_
  refine sw_cV dX10_labellings_3 lv_X10_295 hm4 hr4 rfl (by decide) rfl rfl rfl (Nat.le_of_ble_eq_true rfl) (fun _ _ => rfl) rfl ?_
  show SW sc m_X10_labellings _ _ _ 6 [some (.ref r0), some (.int l1), none] [.int v4, .ref r0] g4 P
  exact sw_if_ne dX10_labellings_6 (by decide) (fun q => (kt q)) (fun q => (kf q))
theorem b_X10_labellings_9 {r0 : Nat} {l1 : Int32} {q0 : Nat} (k : SW sc m_X10_labellings d rc rs 14 [some (.ref r0), some (.int l1), none] [.int 1, .ref q0] h P) : SW sc m_X10_labellings d rc rs 9 [some (.ref r0), some (.int l1), none] [.ref q0] h P := by
  refine sw_iconst (v := 1) dX10_labellings_9 (by decide) ?_
  exact sw_goto dX10_labellings_10 (by decide) (k)
theorem b_X10_labellings_13 {r0 : Nat} {l1 : Int32} {q0 : Nat} (k : SW sc m_X10_labellings d rc rs 14 [some (.ref r0), some (.int l1), none] [.int 0, .ref q0] h P) : SW sc m_X10_labellings d rc rs 13 [some (.ref r0), some (.int l1), none] [.ref q0] h P := by
  refine sw_iconst (v := 0) dX10_labellings_13 (by decide) ?_
  exact (k)
theorem b_X10_labellings_14 {r0 : Nat} {l1 : Int32} {q0 : Nat} {s1 : Int32} {v2 : Int32} {g2 : ab_H} {fs2 : List Value} (hr2 : (h)[q0]? = some (10, fs2)) (hm2 : MSE m_X10_fails d [.ref q0, .int s1, .int 0] h (some (.int v2)) g2) (kt : v2 = 0 → SW sc m_X10_labellings (d + 1) rc rs 23 [some (.ref r0), some (.int l1), none] [] g2 P) (kf : ¬ (v2 = 0) → SW sc m_X10_labellings (d + 1) rc rs 21 [none, none, none] [] g2 P) : SW sc m_X10_labellings (d + 1) rc rs 14 [some (.ref r0), some (.int l1), none] [.int s1, .ref q0] h P := by
  refine sw_iconst (v := 0) dX10_labellings_14 (by decide) ?_
  refine sw_cV dX10_labellings_15 lv_X10_286 hm2 hr2 rfl (by decide) rfl rfl rfl (Nat.le_of_ble_eq_true rfl) (fun _ _ => rfl) rfl ?_
  show SW sc m_X10_labellings _ _ _ 18 [some (.ref r0), some (.int l1), none] [.int v2] g2 P
  exact sw_if_eq dX10_labellings_18 (by decide) (fun q => (kt q)) (fun q => (sw_fg [true, true, false] rfl (kf q)))
theorem b_X10_labellings_21  (hP : P (.inl (some (.int 0))) h) : SW sc m_X10_labellings d rc rs 21 [none, none, none] [] h P := by
  refine sw_iconst (v := 0) dX10_labellings_21 (by decide) ?_
  exact sw_ret (v := (some (.int 0))) dX10_labellings_22 rt_i hP
theorem b_X10_labellings_23 {r0 : Nat} {l1 : Int32} {v3 : Int32} {g3 : ab_H} {fs3 : List Value} {v6 : Int32} {g6 : ab_H} {v7 : Int64} {g7 : ab_H} {v10 : Int32} {g10 : ab_H} {fs10 : List Value} (hr3 : (h)[r0]? = some (10, fs3)) (hm3 : MSE m_X10_componentAt d [.ref r0, .int l1] h (some (.int v3)) g3) (hm6 : MSE m_X10_ones d [.int v3] g3 (some (.int v6)) g6) (hm7 : MSE m_X10_factorial d [.int v6] g6 (some (.long v7)) g7) (hr10 : (g7)[r0]? = some (10, fs10)) (hm10 : MSE m_X10_symmetriesOf d [.ref r0, .int v3] g7 (some (.int v10)) g10) (hz12 : ¬ v10.toInt64 = 0) (hP : P (.inl (some (.int ((v7 / v10.toInt64).toInt32)))) g10) : SW sc m_X10_labellings (d + 1) rc rs 23 [some (.ref r0), some (.int l1), none] [] h P := by
  refine sw_aload_n dX10_labellings_23 rfl ?_
  refine sw_iload_n dX10_labellings_24 rfl ?_
  refine sw_cV dX10_labellings_25 lv_X10_133 hm3 hr3 rfl (by decide) rfl rfl rfl (Nat.le_of_ble_eq_true rfl) (fun _ _ => rfl) rfl ?_
  show SW sc m_X10_labellings _ _ _ 28 [some (.ref r0), some (.int l1), none] [.int v3] g3 P
  refine sw_istore_n dX10_labellings_28 (by decide) rfl ?_
  show SW sc m_X10_labellings _ _ _ 29 [some (.ref r0), some (.int l1), some (.int v3)] [] g3 P
  refine sw_iload_n dX10_labellings_29 rfl ?_
  refine sw_cS dX10_labellings_30 ls_X10_111 hm6 rfl rfl (Nat.le_of_ble_eq_true rfl) (fun _ _ => rfl) rfl ?_
  show SW sc m_X10_labellings _ _ _ 33 [some (.ref r0), some (.int l1), some (.int v3)] [.int v6] g6 P
  refine sw_cS dX10_labellings_33 ls_X10_313 hm7 rfl rfl (Nat.le_of_ble_eq_true rfl) (fun _ _ => rfl) rfl ?_
  show SW sc m_X10_labellings _ _ _ 36 [some (.ref r0), some (.int l1), some (.int v3)] [.long v7] g7 P
  refine sw_aload_n dX10_labellings_36 rfl ?_
  refine sw_iload_n dX10_labellings_37 rfl ?_
  refine sw_cV dX10_labellings_38 lv_X10_330 hm10 hr10 rfl (by decide) rfl rfl rfl (Nat.le_of_ble_eq_true rfl) (fun _ _ => rfl) rfl ?_
  show SW sc m_X10_labellings _ _ _ 41 [some (.ref r0), some (.int l1), some (.int v3)] [.int v10, .long v7] g10 P
  refine sw_i2l dX10_labellings_41 ?_
  refine sw_ldiv dX10_labellings_42 hz12 ?_
  refine sw_l2i dX10_labellings_43 ?_
  exact sw_ret (v := (some (.int ((v7 / v10.toInt64).toInt32)))) dX10_labellings_44 rt_i hP
theorem b_X10_partings_0 {l0 : Int32} {l1 : Int32} (kt : l0 = 0 → SW sc m_X10_partings d rc rs 8 [some (.int l0), some (.int l1)] [] h P) (kf : ¬ (l0 = 0) → SW sc m_X10_partings d rc rs 4 [some (.int l0), some (.int l1)] [] h P) : SW sc m_X10_partings d rc rs 0 [some (.int l0), some (.int l1)] [] h P := by
  refine sw_iload_n dX10_partings_0 rfl ?_
  exact sw_if_eq dX10_partings_1 (by decide) (fun q => (kt q)) (fun q => (kf q))
theorem b_X10_partings_4 {l0 : Int32} {l1 : Int32} (kt : ¬ l1 = 0 → SW sc m_X10_partings d rc rs 19 [some (.int l0), some (.int l1)] [] h P) (kf : l1 = 0 → SW sc m_X10_partings d rc rs 8 [some (.int l0), some (.int l1)] [] h P) : SW sc m_X10_partings d rc rs 4 [some (.int l0), some (.int l1)] [] h P := by
  refine sw_iload_n dX10_partings_4 rfl ?_
  exact sw_if_ne dX10_partings_5 (by decide) (fun q => (kt q)) (fun q => (kf q))
theorem b_X10_partings_8 {l0 : Int32} {l1 : Int32} (kt : ¬ l0 = l1 → SW sc m_X10_partings d rc rs 17 [none, none] [] h P) (kf : l0 = l1 → SW sc m_X10_partings d rc rs 13 [none, none] [] h P) : SW sc m_X10_partings d rc rs 8 [some (.int l0), some (.int l1)] [] h P := by
  refine sw_iload_n dX10_partings_8 rfl ?_
  refine sw_iload_n dX10_partings_9 rfl ?_
  exact sw_icmp_ne dX10_partings_10 (by decide) (fun q => (sw_fg [true, true] rfl (kt q))) (fun q => (sw_fg [true, true] rfl (kf q)))
theorem b_X10_partings_13  (k : SW sc m_X10_partings d rc rs 18 [none, none] [.long 1] h P) : SW sc m_X10_partings d rc rs 13 [none, none] [] h P := by
  refine sw_lconst (v := 1) dX10_partings_13 (by decide) ?_
  exact sw_goto dX10_partings_14 (by decide) (k)
theorem b_X10_partings_17  (k : SW sc m_X10_partings d rc rs 18 [none, none] [.long 0] h P) : SW sc m_X10_partings d rc rs 17 [none, none] [] h P := by
  refine sw_lconst (v := 0) dX10_partings_17 (by decide) ?_
  exact (k)
theorem b_X10_partings_18 {s0 : Int64} (hP : P (.inl (some (.long s0))) h) : SW sc m_X10_partings d rc rs 18 [none, none] [.long s0] h P := by
  exact sw_ret (v := (some (.long s0))) dX10_partings_18 rt_l hP
theorem b_X10_partings_19 {l0 : Int32} {l1 : Int32} {v7 : Int64} {g7 : ab_H} {v14 : Int64} {g14 : ab_H} (hm7 : MSE m_X10_partings d [.int (l0 - 1), .int (l1 - 1)] h (some (.long v7)) g7) (hm14 : MSE m_X10_partings d [.int (l0 - 1), .int l1] g7 (some (.long v14)) g14) (hP : P (.inl (some (.long (v7 + (l1.toInt64 * v14))))) g14) : SW sc m_X10_partings (d + 1) rc rs 19 [some (.int l0), some (.int l1)] [] h P := by
  refine sw_iload_n dX10_partings_19 rfl ?_
  refine sw_iconst (v := 1) dX10_partings_20 (by decide) ?_
  refine sw_isub dX10_partings_21 ?_
  refine sw_iload_n dX10_partings_22 rfl ?_
  refine sw_iconst (v := 1) dX10_partings_23 (by decide) ?_
  refine sw_isub dX10_partings_24 ?_
  refine sw_cS dX10_partings_25 ls_X10_333 hm7 rfl rfl (Nat.le_of_ble_eq_true rfl) (fun _ _ => rfl) rfl ?_
  show SW sc m_X10_partings _ _ _ 28 [some (.int l0), some (.int l1)] [.long v7] g7 P
  refine sw_iload_n dX10_partings_28 rfl ?_
  refine sw_i2l dX10_partings_29 ?_
  refine sw_iload_n dX10_partings_30 rfl ?_
  refine sw_iconst (v := 1) dX10_partings_31 (by decide) ?_
  refine sw_isub dX10_partings_32 ?_
  refine sw_iload_n dX10_partings_33 rfl ?_
  refine sw_cS dX10_partings_34 ls_X10_333 hm14 rfl rfl (Nat.le_of_ble_eq_true rfl) (fun _ _ => rfl) rfl ?_
  show SW sc m_X10_partings _ _ _ 37 [some (.int l0), some (.int l1)] [.long v14, .long l1.toInt64, .long v7] g14 P
  refine sw_lmul dX10_partings_37 ?_
  refine sw_ladd dX10_partings_38 ?_
  exact sw_ret (v := (some (.long (v7 + (l1.toInt64 * v14))))) dX10_partings_39 rt_l hP
theorem b_X10_withLeaves_0 {r0 : Nat} {l1 : Int32} {l2 : Int32} {v5 : Int32} {g5 : ab_H} (hm5 : MSE m_X10_isIn d [.int l1, .int 1, .int 10] h (some (.int v5)) g5) (kt : v5 = 0 → SW sc m_X10_withLeaves (d + 1) rc rs 21 [none, some (.int l1), some (.int l2)] [.ref r0] g5 P) (kf : ¬ (v5 = 0) → SW sc m_X10_withLeaves (d + 1) rc rs 11 [none, some (.int l1), some (.int l2)] [.ref r0] g5 P) : SW sc m_X10_withLeaves (d + 1) rc rs 0 [some (.ref r0), some (.int l1), some (.int l2)] [] h P := by
  refine sw_aload_n dX10_withLeaves_0 rfl ?_
  refine sw_iload_n dX10_withLeaves_1 rfl ?_
  refine sw_iconst (v := 1) dX10_withLeaves_2 (by decide) ?_
  refine sw_bipush (v := 10) dX10_withLeaves_3 (by decide) ?_
  refine sw_cS dX10_withLeaves_5 ls_X10_153 hm5 rfl rfl (Nat.le_of_ble_eq_true rfl) (fun _ _ => rfl) rfl ?_
  show SW sc m_X10_withLeaves _ _ _ 8 [some (.ref r0), some (.int l1), some (.int l2)] [.int v5, .ref r0] g5 P
  exact sw_if_eq dX10_withLeaves_8 (by decide) (fun q => (sw_fg [true, false, false] rfl (kt q))) (fun q => (sw_fg [true, false, false] rfl (kf q)))
theorem b_X10_withLeaves_11 {l1 : Int32} {l2 : Int32} {q0 : Nat} {v4 : Int32} {g4 : ab_H} (hm4 : MSE m_X10_isIn d [.int l2, .int 0, .int 10] h (some (.int v4)) g4) (kt : ¬ v4 = 0 → SW sc m_X10_withLeaves (d + 1) rc rs 25 [none, some (.int l1), some (.int l2)] [.ref q0] g4 P) (kf : v4 = 0 → SW sc m_X10_withLeaves (d + 1) rc rs 21 [none, some (.int l1), some (.int l2)] [.ref q0] g4 P) : SW sc m_X10_withLeaves (d + 1) rc rs 11 [none, some (.int l1), some (.int l2)] [.ref q0] h P := by
  refine sw_iload_n dX10_withLeaves_11 rfl ?_
  refine sw_iconst (v := 0) dX10_withLeaves_12 (by decide) ?_
  refine sw_bipush (v := 10) dX10_withLeaves_13 (by decide) ?_
  refine sw_cS dX10_withLeaves_15 ls_X10_153 hm4 rfl rfl (Nat.le_of_ble_eq_true rfl) (fun _ _ => rfl) rfl ?_
  show SW sc m_X10_withLeaves _ _ _ 18 [none, some (.int l1), some (.int l2)] [.int v4, .ref q0] g4 P
  exact sw_if_ne dX10_withLeaves_18 (by decide) (fun q => (kt q)) (fun q => (kf q))
theorem b_X10_withLeaves_21 {l1 : Int32} {l2 : Int32} {q0 : Nat} (k : SW sc m_X10_withLeaves d rc rs 26 [none, some (.int l1), some (.int l2)] [.int 1, .ref q0] h P) : SW sc m_X10_withLeaves d rc rs 21 [none, some (.int l1), some (.int l2)] [.ref q0] h P := by
  refine sw_iconst (v := 1) dX10_withLeaves_21 (by decide) ?_
  exact sw_goto dX10_withLeaves_22 (by decide) (k)
theorem b_X10_withLeaves_25 {l1 : Int32} {l2 : Int32} {q0 : Nat} (k : SW sc m_X10_withLeaves d rc rs 26 [none, some (.int l1), some (.int l2)] [.int 0, .ref q0] h P) : SW sc m_X10_withLeaves d rc rs 25 [none, some (.int l1), some (.int l2)] [.ref q0] h P := by
  refine sw_iconst (v := 0) dX10_withLeaves_25 (by decide) ?_
  exact (k)
theorem b_X10_withLeaves_26 {l1 : Int32} {l2 : Int32} {q0 : Nat} {s1 : Int32} {v2 : Int32} {g2 : ab_H} {fs2 : List Value} (hr2 : (h)[q0]? = some (10, fs2)) (hm2 : MSE m_X10_fails d [.ref q0, .int s1, .int 0] h (some (.int v2)) g2) (kt : v2 = 0 → SW sc m_X10_withLeaves (d + 1) rc rs 35 [none, some (.int l1), some (.int l2)] [] g2 P) (kf : ¬ (v2 = 0) → SW sc m_X10_withLeaves (d + 1) rc rs 33 [none, none, none] [] g2 P) : SW sc m_X10_withLeaves (d + 1) rc rs 26 [none, some (.int l1), some (.int l2)] [.int s1, .ref q0] h P := by
  refine sw_iconst (v := 0) dX10_withLeaves_26 (by decide) ?_
  refine sw_cV dX10_withLeaves_27 lv_X10_286 hm2 hr2 rfl (by decide) rfl rfl rfl (Nat.le_of_ble_eq_true rfl) (fun _ _ => rfl) rfl ?_
  show SW sc m_X10_withLeaves _ _ _ 30 [none, some (.int l1), some (.int l2)] [.int v2] g2 P
  exact sw_if_eq dX10_withLeaves_30 (by decide) (fun q => (kt q)) (fun q => (sw_fg [false, true, true] rfl (kf q)))
theorem b_X10_withLeaves_33  (hP : P (.inl (some (.int 0))) h) : SW sc m_X10_withLeaves d rc rs 33 [none, none, none] [] h P := by
  refine sw_iconst (v := 0) dX10_withLeaves_33 (by decide) ?_
  exact sw_ret (v := (some (.int 0))) dX10_withLeaves_34 rt_i hP
theorem b_X10_withLeaves_35 {l1 : Int32} {l2 : Int32} (kt : 3 ≤ l1 → SW sc m_X10_withLeaves d rc rs 60 [none, some (.int l1), some (.int l2)] [] h P) (kf : ¬ (3 ≤ l1) → SW sc m_X10_withLeaves d rc rs 40 [none, some (.int l1), some (.int l2)] [] h P) : SW sc m_X10_withLeaves d rc rs 35 [none, some (.int l1), some (.int l2)] [] h P := by
  refine sw_iload_n dX10_withLeaves_35 rfl ?_
  refine sw_iconst (v := 3) dX10_withLeaves_36 (by decide) ?_
  exact sw_icmp_ge dX10_withLeaves_37 (by decide) (fun q => (kt q)) (fun q => (kf q))
theorem b_X10_withLeaves_40 {l1 : Int32} {l2 : Int32} (kt : ¬ l1 = 1 → SW sc m_X10_withLeaves d rc rs 50 [none, none, none] [.int l2] h P) (kf : l1 = 1 → SW sc m_X10_withLeaves d rc rs 46 [none, none, none] [.int l2] h P) : SW sc m_X10_withLeaves d rc rs 40 [none, some (.int l1), some (.int l2)] [] h P := by
  refine sw_iload_n dX10_withLeaves_40 rfl ?_
  refine sw_iload_n dX10_withLeaves_41 rfl ?_
  refine sw_iconst (v := 1) dX10_withLeaves_42 (by decide) ?_
  exact sw_icmp_ne dX10_withLeaves_43 (by decide) (fun q => (sw_fg [false, true, true] rfl (kt q))) (fun q => (sw_fg [false, true, true] rfl (kf q)))
theorem b_X10_withLeaves_46 {s0 : Int32} (k : SW sc m_X10_withLeaves d rc rs 51 [none, none, none] [.int 0, .int s0] h P) : SW sc m_X10_withLeaves d rc rs 46 [none, none, none] [.int s0] h P := by
  refine sw_iconst (v := 0) dX10_withLeaves_46 (by decide) ?_
  exact sw_goto dX10_withLeaves_47 (by decide) (k)
theorem b_X10_withLeaves_50 {s0 : Int32} (k : SW sc m_X10_withLeaves d rc rs 51 [none, none, none] [.int 2, .int s0] h P) : SW sc m_X10_withLeaves d rc rs 50 [none, none, none] [.int s0] h P := by
  refine sw_iconst (v := 2) dX10_withLeaves_50 (by decide) ?_
  exact (k)
theorem b_X10_withLeaves_51 {s0 : Int32} {s1 : Int32} (kt : ¬ s0 = s1 → SW sc m_X10_withLeaves d rc rs 58 [none, none, none] [] h P) (kf : s0 = s1 → SW sc m_X10_withLeaves d rc rs 54 [none, none, none] [] h P) : SW sc m_X10_withLeaves d rc rs 51 [none, none, none] [.int s1, .int s0] h P := by
  exact sw_icmp_ne dX10_withLeaves_51 (by decide) (fun q => (kt q)) (fun q => (kf q))
theorem b_X10_withLeaves_54  (k : SW sc m_X10_withLeaves d rc rs 59 [none, none, none] [.int 1] h P) : SW sc m_X10_withLeaves d rc rs 54 [none, none, none] [] h P := by
  refine sw_iconst (v := 1) dX10_withLeaves_54 (by decide) ?_
  exact sw_goto dX10_withLeaves_55 (by decide) (k)
theorem b_X10_withLeaves_58  (k : SW sc m_X10_withLeaves d rc rs 59 [none, none, none] [.int 0] h P) : SW sc m_X10_withLeaves d rc rs 58 [none, none, none] [] h P := by
  refine sw_iconst (v := 0) dX10_withLeaves_58 (by decide) ?_
  exact (k)
theorem b_X10_withLeaves_59 {s0 : Int32} (hP : P (.inl (some (.int s0))) h) : SW sc m_X10_withLeaves d rc rs 59 [none, none, none] [.int s0] h P := by
  exact sw_ret (v := (some (.int s0))) dX10_withLeaves_59 rt_i hP
theorem b_X10_withLeaves_60 {l1 : Int32} {l2 : Int32} (kt : l2 < 2 → SW sc m_X10_withLeaves d rc rs 70 [none, none, none] [] h P) (kf : ¬ (l2 < 2) → SW sc m_X10_withLeaves d rc rs 65 [none, some (.int l1), some (.int l2)] [] h P) : SW sc m_X10_withLeaves d rc rs 60 [none, some (.int l1), some (.int l2)] [] h P := by
  refine sw_iload_n dX10_withLeaves_60 rfl ?_
  refine sw_iconst (v := 2) dX10_withLeaves_61 (by decide) ?_
  exact sw_icmp_lt dX10_withLeaves_62 (by decide) (fun q => (sw_fg [false, true, true] rfl (kt q))) (fun q => (kf q))
theorem b_X10_withLeaves_65 {l1 : Int32} {l2 : Int32} (kt : l2 < l1 → SW sc m_X10_withLeaves d rc rs 74 [none, some (.int l1), some (.int l2)] [] h P) (kf : ¬ (l2 < l1) → SW sc m_X10_withLeaves d rc rs 70 [none, none, none] [] h P) : SW sc m_X10_withLeaves d rc rs 65 [none, some (.int l1), some (.int l2)] [] h P := by
  refine sw_iload_n dX10_withLeaves_65 rfl ?_
  refine sw_iload_n dX10_withLeaves_66 rfl ?_
  exact sw_icmp_lt dX10_withLeaves_67 (by decide) (fun q => (kt q)) (fun q => (sw_fg [false, true, true] rfl (kf q)))
theorem b_X10_withLeaves_70  (k : SW sc m_X10_withLeaves d rc rs 94 [none, none, none] [.int 0] h P) : SW sc m_X10_withLeaves d rc rs 70 [none, none, none] [] h P := by
  refine sw_iconst (v := 0) dX10_withLeaves_70 (by decide) ?_
  exact sw_goto dX10_withLeaves_71 (by decide) (k)
theorem b_X10_withLeaves_74 {l1 : Int32} {l2 : Int32} {v2 : Int64} {g2 : ab_H} {v4 : Int64} {g4 : ab_H} {v12 : Int64} {g12 : ab_H} (hm2 : MSE m_X10_factorial d [.int l1] h (some (.long v2)) g2) (hm4 : MSE m_X10_factorial d [.int l2] g2 (some (.long v4)) g4) (hz5 : ¬ v4 = 0) (hm12 : MSE m_X10_partings d [.int (l1 - 2), .int (l1 - l2)] g4 (some (.long v12)) g12) (k : SW sc m_X10_withLeaves (d + 1) rc rs 94 [none, none, none] [.int (((v2 / v4) * v12).toInt32)] g12 P) : SW sc m_X10_withLeaves (d + 1) rc rs 74 [none, some (.int l1), some (.int l2)] [] h P := by
  refine sw_iload_n dX10_withLeaves_74 rfl ?_
  refine sw_cS dX10_withLeaves_75 ls_X10_313 hm2 rfl rfl (Nat.le_of_ble_eq_true rfl) (fun _ _ => rfl) rfl ?_
  show SW sc m_X10_withLeaves _ _ _ 78 [none, some (.int l1), some (.int l2)] [.long v2] g2 P
  refine sw_iload_n dX10_withLeaves_78 rfl ?_
  refine sw_cS dX10_withLeaves_79 ls_X10_313 hm4 rfl rfl (Nat.le_of_ble_eq_true rfl) (fun _ _ => rfl) rfl ?_
  show SW sc m_X10_withLeaves _ _ _ 82 [none, some (.int l1), some (.int l2)] [.long v4, .long v2] g4 P
  refine sw_ldiv dX10_withLeaves_82 hz5 ?_
  refine sw_iload_n dX10_withLeaves_83 rfl ?_
  refine sw_iconst (v := 2) dX10_withLeaves_84 (by decide) ?_
  refine sw_isub dX10_withLeaves_85 ?_
  refine sw_iload_n dX10_withLeaves_86 rfl ?_
  refine sw_iload_n dX10_withLeaves_87 rfl ?_
  refine sw_isub dX10_withLeaves_88 ?_
  refine sw_cS dX10_withLeaves_89 ls_X10_333 hm12 rfl rfl (Nat.le_of_ble_eq_true rfl) (fun _ _ => rfl) rfl ?_
  show SW sc m_X10_withLeaves _ _ _ 92 [none, some (.int l1), some (.int l2)] [.long v12, .long (v2 / v4)] g12 P
  refine sw_lmul dX10_withLeaves_92 ?_
  refine sw_l2i dX10_withLeaves_93 ?_
  exact (sw_fg [false, true, true] rfl (k))
theorem b_X10_withLeaves_94 {s0 : Int32} (hP : P (.inl (some (.int s0))) h) : SW sc m_X10_withLeaves d rc rs 94 [none, none, none] [.int s0] h P := by
  exact sw_ret (v := (some (.int s0))) dX10_withLeaves_94 rt_i hP
theorem b_X10_laysRooted_0 {r0 : Nat} {fs2 : List Value} {a2 : Nat} {vs5 : List Value} (hc2 : (h)[r0]? = some (10, fs2)) (hv2 : fs2[25]? = some (.ref a2)) (hc5 : (h)[a2]? = some (100, vs5)) (ho5 : ¬ 1 < 0) (hl5 : (1 : Int32).toNatClampNeg < vs5.length) (k : SW sc m_X10_laysRooted d rc rs 9 [some (.ref r0), some (.int 1), none, none, none, none] [] ((h).set a2 (100, vs5.set (1 : Int32).toNatClampNeg (.int 1))) P) : SW sc m_X10_laysRooted d rc rs 0 [some (.ref r0), none, none, none, none, none] [] h P := by
  refine sw_aload_n dX10_laysRooted_0 rfl ?_
  refine sw_getf dX10_laysRooted_1 lf_X10_50 hc2 hv2 ?_
  refine sw_iconst (v := 1) dX10_laysRooted_4 (by decide) ?_
  refine sw_iconst (v := 1) dX10_laysRooted_5 (by decide) ?_
  refine sw_iast dX10_laysRooted_6 hc5 ho5 hl5 ?_
  refine sw_iconst (v := 1) dX10_laysRooted_7 (by decide) ?_
  refine sw_istore_n dX10_laysRooted_8 (by decide) rfl ?_
  show SW sc m_X10_laysRooted _ _ _ 9 [some (.ref r0), some (.int 1), none, none, none, none] [] ((h).set a2 (100, vs5.set (1 : Int32).toNatClampNeg (.int 1))) P
  exact (k)
theorem b_X10_laysRooted_9 {r0 : Nat} {l1 : Int32} (kt : 10 ≤ l1 → SW sc m_X10_laysRooted d rc rs 107 [none, none, none, none, none, none] [] h P) (kf : ¬ (10 ≤ l1) → SW sc m_X10_laysRooted d rc rs 15 [some (.ref r0), some (.int l1), none, none, none, none] [] h P) : SW sc m_X10_laysRooted d rc rs 9 [some (.ref r0), some (.int l1), none, none, none, none] [] h P := by
  refine sw_iload_n dX10_laysRooted_9 rfl ?_
  refine sw_bipush (v := 10) dX10_laysRooted_10 (by decide) ?_
  exact sw_icmp_ge dX10_laysRooted_12 (by decide) (fun q => (sw_fg [true, true, false, false, false, false] rfl (kt q))) (fun q => (kf q))
theorem b_X10_laysRooted_15 {r0 : Nat} {l1 : Int32} (k : SW sc m_X10_laysRooted d rc rs 19 [some (.ref r0), some (.int l1), some (.int 0), some (.int 1), none, none] [] h P) : SW sc m_X10_laysRooted d rc rs 15 [some (.ref r0), some (.int l1), none, none, none, none] [] h P := by
  refine sw_iconst (v := 0) dX10_laysRooted_15 (by decide) ?_
  refine sw_istore_n dX10_laysRooted_16 (by decide) rfl ?_
  show SW sc m_X10_laysRooted _ _ _ 17 [some (.ref r0), some (.int l1), some (.int 0), none, none, none] [] h P
  refine sw_iconst (v := 1) dX10_laysRooted_17 (by decide) ?_
  refine sw_istore_n dX10_laysRooted_18 (by decide) rfl ?_
  show SW sc m_X10_laysRooted _ _ _ 19 [some (.ref r0), some (.int l1), some (.int 0), some (.int 1), none, none] [] h P
  exact (k)
theorem b_X10_laysRooted_19 {r0 : Nat} {l1 : Int32} {l2 : Int32} {l3 : Int32} (kt : l1 < l3 → SW sc m_X10_laysRooted d rc rs 90 [some (.ref r0), some (.int l1), some (.int l2), none, none, none] [] h P) (kf : ¬ (l1 < l3) → SW sc m_X10_laysRooted d rc rs 24 [some (.ref r0), some (.int l1), some (.int l2), some (.int l3), none, none] [] h P) : SW sc m_X10_laysRooted d rc rs 19 [some (.ref r0), some (.int l1), some (.int l2), some (.int l3), none, none] [] h P := by
  refine sw_iload_n dX10_laysRooted_19 rfl ?_
  refine sw_iload_n dX10_laysRooted_20 rfl ?_
  exact sw_icmp_gt dX10_laysRooted_21 (by decide) (fun q => (sw_fg [false, false, false, true, false, false] rfl (kt q))) (fun q => (kf q))
theorem b_X10_laysRooted_24 {r0 : Nat} {l1 : Int32} {l2 : Int32} {l3 : Int32} (k : SW sc m_X10_laysRooted d rc rs 30 [some (.ref r0), some (.int l1), some (.int l2), some (.int l3), some (.int 0), some (.int 1)] [] h P) : SW sc m_X10_laysRooted d rc rs 24 [some (.ref r0), some (.int l1), some (.int l2), some (.int l3), none, none] [] h P := by
  refine sw_iconst (v := 0) dX10_laysRooted_24 (by decide) ?_
  refine sw_istore dX10_laysRooted_25 (by decide) rfl ?_
  show SW sc m_X10_laysRooted _ _ _ 27 [some (.ref r0), some (.int l1), some (.int l2), some (.int l3), some (.int 0), none] [] h P
  refine sw_iconst (v := 1) dX10_laysRooted_27 (by decide) ?_
  refine sw_istore dX10_laysRooted_28 (by decide) rfl ?_
  show SW sc m_X10_laysRooted _ _ _ 30 [some (.ref r0), some (.int l1), some (.int l2), some (.int l3), some (.int 0), some (.int 1)] [] h P
  exact (k)
theorem b_X10_laysRooted_30 {r0 : Nat} {l1 : Int32} {l2 : Int32} {l3 : Int32} {l4 : Int32} {l5 : Int32} (kt : l3 < l5 → SW sc m_X10_laysRooted d rc rs 68 [some (.ref r0), some (.int l1), some (.int l2), some (.int l3), some (.int l4), none] [] h P) (kf : ¬ (l3 < l5) → SW sc m_X10_laysRooted d rc rs 36 [some (.ref r0), some (.int l1), some (.int l2), some (.int l3), some (.int l4), some (.int l5)] [] h P) : SW sc m_X10_laysRooted d rc rs 30 [some (.ref r0), some (.int l1), some (.int l2), some (.int l3), some (.int l4), some (.int l5)] [] h P := by
  refine sw_iload dX10_laysRooted_30 rfl ?_
  refine sw_iload_n dX10_laysRooted_32 rfl ?_
  exact sw_icmp_gt dX10_laysRooted_33 (by decide) (fun q => (sw_fg [false, false, false, false, false, true] rfl (kt q))) (fun q => (kf q))
theorem b_X10_laysRooted_36 {r0 : Nat} {l1 : Int32} {l2 : Int32} {l3 : Int32} {l4 : Int32} {l5 : Int32} (hz4 : ¬ l5 = 0) (kt : ¬ (l3 - l3 / l5 * l5) = 0 → SW sc m_X10_laysRooted d rc rs 58 [some (.ref r0), some (.int l1), some (.int l2), some (.int l3), none, some (.int l5)] [.int l4] h P) (kf : (l3 - l3 / l5 * l5) = 0 → SW sc m_X10_laysRooted d rc rs 45 [some (.ref r0), some (.int l1), some (.int l2), some (.int l3), none, some (.int l5)] [.int l4] h P) : SW sc m_X10_laysRooted d rc rs 36 [some (.ref r0), some (.int l1), some (.int l2), some (.int l3), some (.int l4), some (.int l5)] [] h P := by
  refine sw_iload dX10_laysRooted_36 rfl ?_
  refine sw_iload_n dX10_laysRooted_38 rfl ?_
  refine sw_iload dX10_laysRooted_39 rfl ?_
  refine sw_irem dX10_laysRooted_41 hz4 ?_
  exact sw_if_ne dX10_laysRooted_42 (by decide) (fun q => (sw_fg [false, false, false, false, true, false] rfl (kt q))) (fun q => (sw_fg [false, false, false, false, true, false] rfl (kf q)))
theorem b_X10_laysRooted_45 {r0 : Nat} {l1 : Int32} {l2 : Int32} {l3 : Int32} {l5 : Int32} {s0 : Int32} {fs3 : List Value} {a3 : Nat} {vs5 : List Value} {x5 : Int32} (hc3 : (h)[r0]? = some (10, fs3)) (hv3 : fs3[25]? = some (.ref a3)) (hc5 : (h)[a3]? = some (100, vs5)) (ho5 : ¬ l5 < 0) (hi5 : vs5[l5.toNatClampNeg]? = some (.int x5)) (k : SW sc m_X10_laysRooted d rc rs 59 [some (.ref r0), some (.int l1), some (.int l2), some (.int l3), none, some (.int l5)] [.int (l5 * x5), .int s0] h P) : SW sc m_X10_laysRooted d rc rs 45 [some (.ref r0), some (.int l1), some (.int l2), some (.int l3), none, some (.int l5)] [.int s0] h P := by
  refine sw_iload dX10_laysRooted_45 rfl ?_
  refine sw_aload_n dX10_laysRooted_47 rfl ?_
  refine sw_getf dX10_laysRooted_48 lf_X10_50 hc3 hv3 ?_
  refine sw_iload dX10_laysRooted_51 rfl ?_
  refine sw_iald dX10_laysRooted_53 hc5 ho5 hi5 ?_
  refine sw_imul dX10_laysRooted_54 ?_
  exact sw_goto dX10_laysRooted_55 (by decide) (k)
theorem b_X10_laysRooted_58 {r0 : Nat} {l1 : Int32} {l2 : Int32} {l3 : Int32} {l5 : Int32} {s0 : Int32} (k : SW sc m_X10_laysRooted d rc rs 59 [some (.ref r0), some (.int l1), some (.int l2), some (.int l3), none, some (.int l5)] [.int 0, .int s0] h P) : SW sc m_X10_laysRooted d rc rs 58 [some (.ref r0), some (.int l1), some (.int l2), some (.int l3), none, some (.int l5)] [.int s0] h P := by
  refine sw_iconst (v := 0) dX10_laysRooted_58 (by decide) ?_
  exact (k)
theorem b_X10_laysRooted_59 {r0 : Nat} {l1 : Int32} {l2 : Int32} {l3 : Int32} {l5 : Int32} {s0 : Int32} {s1 : Int32} (k : SW sc m_X10_laysRooted d rc rs 30 [some (.ref r0), some (.int l1), some (.int l2), some (.int l3), some (.int (s0 + s1)), some (.int (l5 + 1))] [] h P) : SW sc m_X10_laysRooted d rc rs 59 [some (.ref r0), some (.int l1), some (.int l2), some (.int l3), none, some (.int l5)] [.int s1, .int s0] h P := by
  refine sw_iadd dX10_laysRooted_59 ?_
  refine sw_istore dX10_laysRooted_60 (by decide) rfl ?_
  show SW sc m_X10_laysRooted _ _ _ 62 [some (.ref r0), some (.int l1), some (.int l2), some (.int l3), some (.int (s0 + s1)), some (.int l5)] [] h P
  refine sw_iinc (v := l5 + 1) dX10_laysRooted_62 rfl rfl (by decide) rfl ?_
  show SW sc m_X10_laysRooted _ _ _ 65 [some (.ref r0), some (.int l1), some (.int l2), some (.int l3), some (.int (s0 + s1)), some (.int (l5 + 1))] [] h P
  exact sw_goto dX10_laysRooted_65 (by decide) (k)
theorem b_X10_laysRooted_68 {r0 : Nat} {l1 : Int32} {l2 : Int32} {l3 : Int32} {l4 : Int32} {fs4 : List Value} {a4 : Nat} {vs10 : List Value} {x10 : Int32} (hc4 : (h)[r0]? = some (10, fs4)) (hv4 : fs4[25]? = some (.ref a4)) (hc10 : (h)[a4]? = some (100, vs10)) (ho10 : ¬ ((l1 - l3) + 1) < 0) (hi10 : vs10[((l1 - l3) + 1).toNatClampNeg]? = some (.int x10)) (k : SW sc m_X10_laysRooted d rc rs 19 [some (.ref r0), some (.int l1), some (.int (l2 + (l4 * x10))), some (.int (l3 + 1)), none, none] [] h P) : SW sc m_X10_laysRooted d rc rs 68 [some (.ref r0), some (.int l1), some (.int l2), some (.int l3), some (.int l4), none] [] h P := by
  refine sw_iload_n dX10_laysRooted_68 rfl ?_
  refine sw_iload dX10_laysRooted_69 rfl ?_
  refine sw_aload_n dX10_laysRooted_71 rfl ?_
  refine sw_getf dX10_laysRooted_72 lf_X10_50 hc4 hv4 ?_
  refine sw_iload_n dX10_laysRooted_75 rfl ?_
  refine sw_iload_n dX10_laysRooted_76 rfl ?_
  refine sw_isub dX10_laysRooted_77 ?_
  refine sw_iconst (v := 1) dX10_laysRooted_78 (by decide) ?_
  refine sw_iadd dX10_laysRooted_79 ?_
  refine sw_iald dX10_laysRooted_80 hc10 ho10 hi10 ?_
  refine sw_imul dX10_laysRooted_81 ?_
  refine sw_iadd dX10_laysRooted_82 ?_
  refine sw_istore_n dX10_laysRooted_83 (by decide) rfl ?_
  show SW sc m_X10_laysRooted _ _ _ 84 [some (.ref r0), some (.int l1), some (.int (l2 + (l4 * x10))), some (.int l3), some (.int l4), none] [] h P
  refine sw_iinc (v := l3 + 1) dX10_laysRooted_84 rfl rfl (by decide) rfl ?_
  show SW sc m_X10_laysRooted _ _ _ 87 [some (.ref r0), some (.int l1), some (.int (l2 + (l4 * x10))), some (.int (l3 + 1)), some (.int l4), none] [] h P
  exact sw_goto dX10_laysRooted_87 (by decide) (sw_fg [false, false, false, false, true, false] rfl (k))
theorem b_X10_laysRooted_90 {r0 : Nat} {l1 : Int32} {l2 : Int32} {fs2 : List Value} {a2 : Nat} {vs9 : List Value} (hc2 : (h)[r0]? = some (10, fs2)) (hv2 : fs2[25]? = some (.ref a2)) (hz8 : ¬ l1 = 0) (hc9 : (h)[a2]? = some (100, vs9)) (ho9 : ¬ (l1 + 1) < 0) (hl9 : (l1 + 1).toNatClampNeg < vs9.length) (k : SW sc m_X10_laysRooted d rc rs 9 [some (.ref r0), some (.int (l1 + 1)), none, none, none, none] [] ((h).set a2 (100, vs9.set (l1 + 1).toNatClampNeg (.int (l2 / l1)))) P) : SW sc m_X10_laysRooted d rc rs 90 [some (.ref r0), some (.int l1), some (.int l2), none, none, none] [] h P := by
  refine sw_aload_n dX10_laysRooted_90 rfl ?_
  refine sw_getf dX10_laysRooted_91 lf_X10_50 hc2 hv2 ?_
  refine sw_iload_n dX10_laysRooted_94 rfl ?_
  refine sw_iconst (v := 1) dX10_laysRooted_95 (by decide) ?_
  refine sw_iadd dX10_laysRooted_96 ?_
  refine sw_iload_n dX10_laysRooted_97 rfl ?_
  refine sw_iload_n dX10_laysRooted_98 rfl ?_
  refine sw_idiv dX10_laysRooted_99 hz8 ?_
  refine sw_iast dX10_laysRooted_100 hc9 ho9 hl9 ?_
  refine sw_iinc (v := l1 + 1) dX10_laysRooted_101 rfl rfl (by decide) rfl ?_
  show SW sc m_X10_laysRooted _ _ _ 104 [some (.ref r0), some (.int (l1 + 1)), some (.int l2), none, none, none] [] ((h).set a2 (100, vs9.set (l1 + 1).toNatClampNeg (.int (l2 / l1)))) P
  exact sw_goto dX10_laysRooted_104 (by decide) (sw_fg [false, false, true, false, false, false] rfl (k))
theorem b_X10_laysRooted_107  (hP : P (.inl none) h) : SW sc m_X10_laysRooted d rc rs 107 [none, none, none, none, none, none] [] h P := by
  exact sw_ret (v := none) dX10_laysRooted_107 rt_v hP
theorem b_X10_classes_0 {r0 : Nat} {l1 : Int32} {l2 : Int32} {v5 : Int32} {g5 : ab_H} (hm5 : MSE m_X10_isIn d [.int l1, .int 1, .int 10] h (some (.int v5)) g5) (kt : ¬ v5 = 0 → SW sc m_X10_classes (d + 1) rc rs 15 [some (.ref r0), some (.int l1), some (.int l2), none, none] [.ref r0] g5 P) (kf : v5 = 0 → SW sc m_X10_classes (d + 1) rc rs 11 [some (.ref r0), some (.int l1), some (.int l2), none, none] [.ref r0] g5 P) : SW sc m_X10_classes (d + 1) rc rs 0 [some (.ref r0), some (.int l1), some (.int l2), none, none] [] h P := by
  refine sw_aload_n dX10_classes_0 rfl ?_
  refine sw_iload_n dX10_classes_1 rfl ?_
  refine sw_iconst (v := 1) dX10_classes_2 (by decide) ?_
  refine sw_bipush (v := 10) dX10_classes_3 (by decide) ?_
  refine sw_cS dX10_classes_5 ls_X10_153 hm5 rfl rfl (Nat.le_of_ble_eq_true rfl) (fun _ _ => rfl) rfl ?_
  show SW sc m_X10_classes _ _ _ 8 [some (.ref r0), some (.int l1), some (.int l2), none, none] [.int v5, .ref r0] g5 P
  exact sw_if_ne dX10_classes_8 (by decide) (fun q => (kt q)) (fun q => (kf q))
theorem b_X10_classes_11 {r0 : Nat} {l1 : Int32} {l2 : Int32} {q0 : Nat} (k : SW sc m_X10_classes d rc rs 16 [some (.ref r0), some (.int l1), some (.int l2), none, none] [.int 1, .ref q0] h P) : SW sc m_X10_classes d rc rs 11 [some (.ref r0), some (.int l1), some (.int l2), none, none] [.ref q0] h P := by
  refine sw_iconst (v := 1) dX10_classes_11 (by decide) ?_
  exact sw_goto dX10_classes_12 (by decide) (k)
theorem b_X10_classes_15 {r0 : Nat} {l1 : Int32} {l2 : Int32} {q0 : Nat} (k : SW sc m_X10_classes d rc rs 16 [some (.ref r0), some (.int l1), some (.int l2), none, none] [.int 0, .ref q0] h P) : SW sc m_X10_classes d rc rs 15 [some (.ref r0), some (.int l1), some (.int l2), none, none] [.ref q0] h P := by
  refine sw_iconst (v := 0) dX10_classes_15 (by decide) ?_
  exact (k)
theorem b_X10_classes_16 {r0 : Nat} {l1 : Int32} {l2 : Int32} {q0 : Nat} {s1 : Int32} {v2 : Int32} {g2 : ab_H} {fs2 : List Value} (hr2 : (h)[q0]? = some (10, fs2)) (hm2 : MSE m_X10_fails d [.ref q0, .int s1, .int 0] h (some (.int v2)) g2) (kt : v2 = 0 → SW sc m_X10_classes (d + 1) rc rs 25 [some (.ref r0), some (.int l1), some (.int l2), none, none] [] g2 P) (kf : ¬ (v2 = 0) → SW sc m_X10_classes (d + 1) rc rs 23 [none, none, none, none, none] [] g2 P) : SW sc m_X10_classes (d + 1) rc rs 16 [some (.ref r0), some (.int l1), some (.int l2), none, none] [.int s1, .ref q0] h P := by
  refine sw_iconst (v := 0) dX10_classes_16 (by decide) ?_
  refine sw_cV dX10_classes_17 lv_X10_286 hm2 hr2 rfl (by decide) rfl rfl rfl (Nat.le_of_ble_eq_true rfl) (fun _ _ => rfl) rfl ?_
  show SW sc m_X10_classes _ _ _ 20 [some (.ref r0), some (.int l1), some (.int l2), none, none] [.int v2] g2 P
  exact sw_if_eq dX10_classes_20 (by decide) (fun q => (kt q)) (fun q => (sw_fg [true, true, true, false, false] rfl (kf q)))
theorem b_X10_classes_23  (hP : P (.inl (some (.int 0))) h) : SW sc m_X10_classes d rc rs 23 [none, none, none, none, none] [] h P := by
  refine sw_iconst (v := 0) dX10_classes_23 (by decide) ?_
  exact sw_ret (v := (some (.int 0))) dX10_classes_24 rt_i hP
theorem b_X10_classes_25 {r0 : Nat} {l1 : Int32} {l2 : Int32} {g2 : ab_H} {fs2 : List Value} (hr2 : (h)[r0]? = some (10, fs2)) (hm2 : MSE m_X10_laysRooted d [.ref r0] h none g2) (kt : l2 = 0 → SW sc m_X10_classes (d + 1) rc rs 40 [some (.ref r0), some (.int l1), none, none, none] [] g2 P) (kf : ¬ (l2 = 0) → SW sc m_X10_classes (d + 1) rc rs 33 [some (.ref r0), some (.int l1), none, none, none] [] g2 P) : SW sc m_X10_classes (d + 1) rc rs 25 [some (.ref r0), some (.int l1), some (.int l2), none, none] [] h P := by
  refine sw_aload_n dX10_classes_25 rfl ?_
  refine sw_cV dX10_classes_26 lv_X10_337 hm2 hr2 rfl (by decide) rfl rfl rfl (Nat.le_of_ble_eq_true rfl) (fun _ _ => rfl) rfl ?_
  show SW sc m_X10_classes _ _ _ 29 [some (.ref r0), some (.int l1), some (.int l2), none, none] [] g2 P
  refine sw_iload_n dX10_classes_29 rfl ?_
  exact sw_if_eq dX10_classes_30 (by decide) (fun q => (sw_fg [false, false, true, false, false] rfl (kt q))) (fun q => (sw_fg [false, false, true, false, false] rfl (kf q)))
theorem b_X10_classes_33 {r0 : Nat} {l1 : Int32} {fs2 : List Value} {a2 : Nat} {vs4 : List Value} {x4 : Int32} (hc2 : (h)[r0]? = some (10, fs2)) (hv2 : fs2[25]? = some (.ref a2)) (hc4 : (h)[a2]? = some (100, vs4)) (ho4 : ¬ l1 < 0) (hi4 : vs4[l1.toNatClampNeg]? = some (.int x4)) (hP : P (.inl (some (.int x4))) h) : SW sc m_X10_classes d rc rs 33 [some (.ref r0), some (.int l1), none, none, none] [] h P := by
  refine sw_aload_n dX10_classes_33 rfl ?_
  refine sw_getf dX10_classes_34 lf_X10_50 hc2 hv2 ?_
  refine sw_iload_n dX10_classes_37 rfl ?_
  refine sw_iald dX10_classes_38 hc4 ho4 hi4 ?_
  exact sw_ret (v := (some (.int x4))) dX10_classes_39 rt_i hP
theorem b_X10_classes_40 {r0 : Nat} {l1 : Int32} (hz3 : ¬ (2 : Int32) = 0) (kt : ¬ (l1 - l1 / 2 * 2) = 0 → SW sc m_X10_classes d rc rs 58 [some (.ref r0), some (.int l1), none, none, none] [] h P) (kf : (l1 - l1 / 2 * 2) = 0 → SW sc m_X10_classes d rc rs 46 [some (.ref r0), some (.int l1), none, none, none] [] h P) : SW sc m_X10_classes d rc rs 40 [some (.ref r0), some (.int l1), none, none, none] [] h P := by
  refine sw_iload_n dX10_classes_40 rfl ?_
  refine sw_iconst (v := 2) dX10_classes_41 (by decide) ?_
  refine sw_irem dX10_classes_42 hz3 ?_
  exact sw_if_ne dX10_classes_43 (by decide) (fun q => (kt q)) (fun q => (kf q))
theorem b_X10_classes_46 {r0 : Nat} {l1 : Int32} {fs2 : List Value} {a2 : Nat} {vs6 : List Value} {x6 : Int32} (hc2 : (h)[r0]? = some (10, fs2)) (hv2 : fs2[25]? = some (.ref a2)) (hz5 : ¬ (2 : Int32) = 0) (hc6 : (h)[a2]? = some (100, vs6)) (ho6 : ¬ (l1 / 2) < 0) (hi6 : vs6[(l1 / 2).toNatClampNeg]? = some (.int x6)) (k : SW sc m_X10_classes d rc rs 59 [some (.ref r0), some (.int l1), none, none, none] [.int (-x6)] h P) : SW sc m_X10_classes d rc rs 46 [some (.ref r0), some (.int l1), none, none, none] [] h P := by
  refine sw_aload_n dX10_classes_46 rfl ?_
  refine sw_getf dX10_classes_47 lf_X10_50 hc2 hv2 ?_
  refine sw_iload_n dX10_classes_50 rfl ?_
  refine sw_iconst (v := 2) dX10_classes_51 (by decide) ?_
  refine sw_idiv dX10_classes_52 hz5 ?_
  refine sw_iald dX10_classes_53 hc6 ho6 hi6 ?_
  refine sw_ineg dX10_classes_54 ?_
  exact sw_goto dX10_classes_55 (by decide) (k)
theorem b_X10_classes_58 {r0 : Nat} {l1 : Int32} (k : SW sc m_X10_classes d rc rs 59 [some (.ref r0), some (.int l1), none, none, none] [.int 0] h P) : SW sc m_X10_classes d rc rs 58 [some (.ref r0), some (.int l1), none, none, none] [] h P := by
  refine sw_iconst (v := 0) dX10_classes_58 (by decide) ?_
  exact (k)
theorem b_X10_classes_59 {r0 : Nat} {l1 : Int32} {s0 : Int32} (k : SW sc m_X10_classes d rc rs 63 [some (.ref r0), some (.int l1), none, some (.int s0), some (.int 1)] [] h P) : SW sc m_X10_classes d rc rs 59 [some (.ref r0), some (.int l1), none, none, none] [.int s0] h P := by
  refine sw_istore_n dX10_classes_59 (by decide) rfl ?_
  show SW sc m_X10_classes _ _ _ 60 [some (.ref r0), some (.int l1), none, some (.int s0), none] [] h P
  refine sw_iconst (v := 1) dX10_classes_60 (by decide) ?_
  refine sw_istore dX10_classes_61 (by decide) rfl ?_
  show SW sc m_X10_classes _ _ _ 63 [some (.ref r0), some (.int l1), none, some (.int s0), some (.int 1)] [] h P
  exact (k)
theorem b_X10_classes_63 {r0 : Nat} {l1 : Int32} {l3 : Int32} {l4 : Int32} (kt : l1 ≤ l4 → SW sc m_X10_classes d rc rs 95 [some (.ref r0), some (.int l1), none, some (.int l3), none] [] h P) (kf : ¬ (l1 ≤ l4) → SW sc m_X10_classes d rc rs 69 [some (.ref r0), some (.int l1), none, some (.int l3), some (.int l4)] [] h P) : SW sc m_X10_classes d rc rs 63 [some (.ref r0), some (.int l1), none, some (.int l3), some (.int l4)] [] h P := by
  refine sw_iload dX10_classes_63 rfl ?_
  refine sw_iload_n dX10_classes_65 rfl ?_
  exact sw_icmp_ge dX10_classes_66 (by decide) (fun q => (sw_fg [false, false, false, false, true] rfl (kt q))) (fun q => (kf q))
theorem b_X10_classes_69 {r0 : Nat} {l1 : Int32} {l3 : Int32} {l4 : Int32} {fs3 : List Value} {a3 : Nat} {vs5 : List Value} {x5 : Int32} {fs7 : List Value} {a7 : Nat} {vs11 : List Value} {x11 : Int32} (hc3 : (h)[r0]? = some (10, fs3)) (hv3 : fs3[25]? = some (.ref a3)) (hc5 : (h)[a3]? = some (100, vs5)) (ho5 : ¬ l4 < 0) (hi5 : vs5[l4.toNatClampNeg]? = some (.int x5)) (hc7 : (h)[r0]? = some (10, fs7)) (hv7 : fs7[25]? = some (.ref a7)) (hc11 : (h)[a7]? = some (100, vs11)) (ho11 : ¬ (l1 - l4) < 0) (hi11 : vs11[(l1 - l4).toNatClampNeg]? = some (.int x11)) (k : SW sc m_X10_classes d rc rs 63 [some (.ref r0), some (.int l1), none, some (.int (l3 + (x5 * x11))), some (.int (l4 + 1))] [] h P) : SW sc m_X10_classes d rc rs 69 [some (.ref r0), some (.int l1), none, some (.int l3), some (.int l4)] [] h P := by
  refine sw_iload_n dX10_classes_69 rfl ?_
  refine sw_aload_n dX10_classes_70 rfl ?_
  refine sw_getf dX10_classes_71 lf_X10_50 hc3 hv3 ?_
  refine sw_iload dX10_classes_74 rfl ?_
  refine sw_iald dX10_classes_76 hc5 ho5 hi5 ?_
  refine sw_aload_n dX10_classes_77 rfl ?_
  refine sw_getf dX10_classes_78 lf_X10_50 hc7 hv7 ?_
  refine sw_iload_n dX10_classes_81 rfl ?_
  refine sw_iload dX10_classes_82 rfl ?_
  refine sw_isub dX10_classes_84 ?_
  refine sw_iald dX10_classes_85 hc11 ho11 hi11 ?_
  refine sw_imul dX10_classes_86 ?_
  refine sw_iadd dX10_classes_87 ?_
  refine sw_istore_n dX10_classes_88 (by decide) rfl ?_
  show SW sc m_X10_classes _ _ _ 89 [some (.ref r0), some (.int l1), none, some (.int (l3 + (x5 * x11))), some (.int l4)] [] h P
  refine sw_iinc (v := l4 + 1) dX10_classes_89 rfl rfl (by decide) rfl ?_
  show SW sc m_X10_classes _ _ _ 92 [some (.ref r0), some (.int l1), none, some (.int (l3 + (x5 * x11))), some (.int (l4 + 1))] [] h P
  exact sw_goto dX10_classes_92 (by decide) (k)
theorem b_X10_classes_95 {r0 : Nat} {l1 : Int32} {l3 : Int32} {fs2 : List Value} {a2 : Nat} {vs4 : List Value} {x4 : Int32} (hc2 : (h)[r0]? = some (10, fs2)) (hv2 : fs2[25]? = some (.ref a2)) (hc4 : (h)[a2]? = some (100, vs4)) (ho4 : ¬ l1 < 0) (hi4 : vs4[l1.toNatClampNeg]? = some (.int x4)) (hz7 : ¬ (2 : Int32) = 0) (hP : P (.inl (some (.int (x4 - (l3 / 2))))) h) : SW sc m_X10_classes d rc rs 95 [some (.ref r0), some (.int l1), none, some (.int l3), none] [] h P := by
  refine sw_aload_n dX10_classes_95 rfl ?_
  refine sw_getf dX10_classes_96 lf_X10_50 hc2 hv2 ?_
  refine sw_iload_n dX10_classes_99 rfl ?_
  refine sw_iald dX10_classes_100 hc4 ho4 hi4 ?_
  refine sw_iload_n dX10_classes_101 rfl ?_
  refine sw_iconst (v := 2) dX10_classes_102 (by decide) ?_
  refine sw_idiv dX10_classes_103 hz7 ?_
  refine sw_isub dX10_classes_104 ?_
  exact sw_ret (v := (some (.int (x4 - (l3 / 2))))) dX10_classes_105 rt_i hP
theorem b_X10_survey_0 {r0 : Nat} {l1 : Int32} {l2 : Int32} {v5 : Int32} {g5 : ab_H} (hm5 : MSE m_X10_isIn d [.int l1, .int 1, .int 6] h (some (.int v5)) g5) (kt : v5 = 0 → SW sc m_X10_survey (d + 1) rc rs 20 [some (.ref r0), some (.int l1), some (.int l2), none, none, none, none, none, none] [.ref r0] g5 P) (kf : ¬ (v5 = 0) → SW sc m_X10_survey (d + 1) rc rs 11 [some (.ref r0), some (.int l1), some (.int l2), none, none, none, none, none, none] [.ref r0] g5 P) : SW sc m_X10_survey (d + 1) rc rs 0 [some (.ref r0), some (.int l1), some (.int l2), none, none, none, none, none, none] [] h P := by
  refine sw_aload_n dX10_survey_0 rfl ?_
  refine sw_iload_n dX10_survey_1 rfl ?_
  refine sw_iconst (v := 1) dX10_survey_2 (by decide) ?_
  refine sw_bipush (v := 6) dX10_survey_3 (by decide) ?_
  refine sw_cS dX10_survey_5 ls_X10_153 hm5 rfl rfl (Nat.le_of_ble_eq_true rfl) (fun _ _ => rfl) rfl ?_
  show SW sc m_X10_survey _ _ _ 8 [some (.ref r0), some (.int l1), some (.int l2), none, none, none, none, none, none] [.int v5, .ref r0] g5 P
  exact sw_if_eq dX10_survey_8 (by decide) (fun q => (kt q)) (fun q => (kf q))
theorem b_X10_survey_11 {r0 : Nat} {l1 : Int32} {l2 : Int32} {q0 : Nat} {v4 : Int32} {g4 : ab_H} (hm4 : MSE m_X10_isIn d [.int l2, .int 0, .int 2] h (some (.int v4)) g4) (kt : ¬ v4 = 0 → SW sc m_X10_survey (d + 1) rc rs 24 [some (.ref r0), some (.int l1), some (.int l2), none, none, none, none, none, none] [.ref q0] g4 P) (kf : v4 = 0 → SW sc m_X10_survey (d + 1) rc rs 20 [some (.ref r0), some (.int l1), some (.int l2), none, none, none, none, none, none] [.ref q0] g4 P) : SW sc m_X10_survey (d + 1) rc rs 11 [some (.ref r0), some (.int l1), some (.int l2), none, none, none, none, none, none] [.ref q0] h P := by
  refine sw_iload_n dX10_survey_11 rfl ?_
  refine sw_iconst (v := 0) dX10_survey_12 (by decide) ?_
  refine sw_iconst (v := 2) dX10_survey_13 (by decide) ?_
  refine sw_cS dX10_survey_14 ls_X10_153 hm4 rfl rfl (Nat.le_of_ble_eq_true rfl) (fun _ _ => rfl) rfl ?_
  show SW sc m_X10_survey _ _ _ 17 [some (.ref r0), some (.int l1), some (.int l2), none, none, none, none, none, none] [.int v4, .ref q0] g4 P
  exact sw_if_ne dX10_survey_17 (by decide) (fun q => (kt q)) (fun q => (kf q))
theorem b_X10_survey_20 {r0 : Nat} {l1 : Int32} {l2 : Int32} {q0 : Nat} (k : SW sc m_X10_survey d rc rs 25 [some (.ref r0), some (.int l1), some (.int l2), none, none, none, none, none, none] [.int 1, .ref q0] h P) : SW sc m_X10_survey d rc rs 20 [some (.ref r0), some (.int l1), some (.int l2), none, none, none, none, none, none] [.ref q0] h P := by
  refine sw_iconst (v := 1) dX10_survey_20 (by decide) ?_
  exact sw_goto dX10_survey_21 (by decide) (k)
theorem b_X10_survey_24 {r0 : Nat} {l1 : Int32} {l2 : Int32} {q0 : Nat} (k : SW sc m_X10_survey d rc rs 25 [some (.ref r0), some (.int l1), some (.int l2), none, none, none, none, none, none] [.int 0, .ref q0] h P) : SW sc m_X10_survey d rc rs 24 [some (.ref r0), some (.int l1), some (.int l2), none, none, none, none, none, none] [.ref q0] h P := by
  refine sw_iconst (v := 0) dX10_survey_24 (by decide) ?_
  exact (k)
theorem b_X10_survey_25 {r0 : Nat} {l1 : Int32} {l2 : Int32} {q0 : Nat} {s1 : Int32} {v2 : Int32} {g2 : ab_H} {fs2 : List Value} (hr2 : (h)[q0]? = some (10, fs2)) (hm2 : MSE m_X10_fails d [.ref q0, .int s1, .int 0] h (some (.int v2)) g2) (kt : v2 = 0 → SW sc m_X10_survey (d + 1) rc rs 34 [some (.ref r0), some (.int l1), some (.int l2), none, none, none, none, none, none] [] g2 P) (kf : ¬ (v2 = 0) → SW sc m_X10_survey (d + 1) rc rs 32 [none, none, none, none, none, none, none, none, none] [] g2 P) : SW sc m_X10_survey (d + 1) rc rs 25 [some (.ref r0), some (.int l1), some (.int l2), none, none, none, none, none, none] [.int s1, .ref q0] h P := by
  refine sw_iconst (v := 0) dX10_survey_25 (by decide) ?_
  refine sw_cV dX10_survey_26 lv_X10_286 hm2 hr2 rfl (by decide) rfl rfl rfl (Nat.le_of_ble_eq_true rfl) (fun _ _ => rfl) rfl ?_
  show SW sc m_X10_survey _ _ _ 29 [some (.ref r0), some (.int l1), some (.int l2), none, none, none, none, none, none] [.int v2] g2 P
  exact sw_if_eq dX10_survey_29 (by decide) (fun q => (kt q)) (fun q => (sw_fg [true, true, true, false, false, false, false, false, false] rfl (kf q)))
theorem b_X10_survey_32  (hP : P (.inl (some (.int 0))) h) : SW sc m_X10_survey d rc rs 32 [none, none, none, none, none, none, none, none, none] [] h P := by
  refine sw_iconst (v := 0) dX10_survey_32 (by decide) ?_
  exact sw_ret (v := (some (.int 0))) dX10_survey_33 rt_i hP
theorem b_X10_survey_34 {r0 : Nat} {l1 : Int32} {l2 : Int32} {fs9 : List Value} (hc9 : (h)[r0]? = some (10, fs9)) (hk9 : 9 < fs9.length) (hz9 : narrow .boolean (.int 1) = .int 1 ∧ fits .boolean (.int 1) = true) (k : SW sc m_X10_survey d rc rs 50 [some (.ref r0), some (.int l1), some (.int l2), some (.int 0), some (.int 0), some (.int 0), some (.int 0), none, none] [] ((h).set r0 (10, fs9.set 9 (.int 1))) P) : SW sc m_X10_survey d rc rs 34 [some (.ref r0), some (.int l1), some (.int l2), none, none, none, none, none, none] [] h P := by
  refine sw_iconst (v := 0) dX10_survey_34 (by decide) ?_
  refine sw_istore_n dX10_survey_35 (by decide) rfl ?_
  show SW sc m_X10_survey _ _ _ 36 [some (.ref r0), some (.int l1), some (.int l2), some (.int 0), none, none, none, none, none] [] h P
  refine sw_iconst (v := 0) dX10_survey_36 (by decide) ?_
  refine sw_istore dX10_survey_37 (by decide) rfl ?_
  show SW sc m_X10_survey _ _ _ 39 [some (.ref r0), some (.int l1), some (.int l2), some (.int 0), some (.int 0), none, none, none, none] [] h P
  refine sw_iconst (v := 0) dX10_survey_39 (by decide) ?_
  refine sw_istore dX10_survey_40 (by decide) rfl ?_
  show SW sc m_X10_survey _ _ _ 42 [some (.ref r0), some (.int l1), some (.int l2), some (.int 0), some (.int 0), some (.int 0), none, none, none] [] h P
  refine sw_aload_n dX10_survey_42 rfl ?_
  refine sw_iconst (v := 1) dX10_survey_43 (by decide) ?_
  refine sw_putf dX10_survey_44 lp_X10_56 hc9 hk9 (fun _ _ => hz9) ?_
  refine sw_iconst (v := 0) dX10_survey_47 (by decide) ?_
  refine sw_istore dX10_survey_48 (by decide) rfl ?_
  show SW sc m_X10_survey _ _ _ 50 [some (.ref r0), some (.int l1), some (.int l2), some (.int 0), some (.int 0), some (.int 0), some (.int 0), none, none] [] ((h).set r0 (10, fs9.set 9 (.int 1))) P
  exact (k)
theorem b_X10_survey_50 {r0 : Nat} {l1 : Int32} {l2 : Int32} {l3 : Int32} {l4 : Int32} {l5 : Int32} {l6 : Int32} {v3 : Int32} {g3 : ab_H} (hm3 : MSE m_X10_ranks d [.int l1] h (some (.int v3)) g3) (kt : v3 ≤ l6 → SW sc m_X10_survey (d + 1) rc rs 148 [some (.ref r0), none, some (.int l2), some (.int l3), some (.int l4), some (.int l5), none, none, none] [] g3 P) (kf : ¬ (v3 ≤ l6) → SW sc m_X10_survey (d + 1) rc rs 59 [some (.ref r0), some (.int l1), some (.int l2), some (.int l3), some (.int l4), some (.int l5), some (.int l6), none, none] [] g3 P) : SW sc m_X10_survey (d + 1) rc rs 50 [some (.ref r0), some (.int l1), some (.int l2), some (.int l3), some (.int l4), some (.int l5), some (.int l6), none, none] [] h P := by
  refine sw_iload dX10_survey_50 rfl ?_
  refine sw_iload_n dX10_survey_52 rfl ?_
  refine sw_cS dX10_survey_53 ls_X10_340 hm3 rfl rfl (Nat.le_of_ble_eq_true rfl) (fun _ _ => rfl) rfl ?_
  show SW sc m_X10_survey _ _ _ 56 [some (.ref r0), some (.int l1), some (.int l2), some (.int l3), some (.int l4), some (.int l5), some (.int l6), none, none] [.int v3, .int l6] g3 P
  exact sw_icmp_ge dX10_survey_56 (by decide) (fun q => (sw_fg [false, true, false, false, false, false, true, false, false] rfl (kt q))) (fun q => (kf q))
theorem b_X10_survey_59 {r0 : Nat} {l1 : Int32} {l2 : Int32} {l3 : Int32} {l4 : Int32} {l5 : Int32} {l6 : Int32} {g4 : ab_H} {fs4 : List Value} {g7 : ab_H} {fs7 : List Value} {v17 : Int32} {g17 : ab_H} {fs17 : List Value} {fs21 : List Value} {a21 : Nat} {v25 : Int32} {g25 : ab_H} {fs25 : List Value} {vs26 : List Value} (hr4 : (h)[r0]? = some (10, fs4)) (hm4 : MSE m_X10_decodes d [.ref r0, .int l6, .int l1] h none g4) (hr7 : (g4)[r0]? = some (10, fs7)) (hm7 : MSE m_X10_grows d [.ref r0, .int l1] g4 none g7) (hr17 : (g7)[r0]? = some (10, fs17)) (hm17 : MSE m_X10_diameter d [.ref r0, .int ((1 <<< (l1 &&& 31)) - 1)] g7 (some (.int v17)) g17) (hc21 : (g17)[r0]? = some (10, fs21)) (hv21 : fs21[26]? = some (.ref a21)) (hr25 : (g17)[r0]? = some (10, fs25)) (hm25 : MSE m_X10_wordOfSet d [.ref r0, .int ((1 <<< (l1 &&& 31)) - 1)] g17 (some (.int v25)) g25) (hc26 : (g25)[a21]? = some (100, vs26)) (ho26 : ¬ l3 < 0) (hl26 : l3.toNatClampNeg < vs26.length) (k : SW sc m_X10_survey (d + 1) rc rs 104 [some (.ref r0), some (.int l1), some (.int l2), some (.int l3), some (.int l4), some (.int (l5 + v17)), some (.int l6), none, some (.int 0)] [] ((g25).set a21 (100, vs26.set l3.toNatClampNeg (.int v25))) P) : SW sc m_X10_survey (d + 1) rc rs 59 [some (.ref r0), some (.int l1), some (.int l2), some (.int l3), some (.int l4), some (.int l5), some (.int l6), none, none] [] h P := by
  refine sw_aload_n dX10_survey_59 rfl ?_
  refine sw_iload dX10_survey_60 rfl ?_
  refine sw_iload_n dX10_survey_62 rfl ?_
  refine sw_cV dX10_survey_63 lv_X10_343 hm4 hr4 rfl (by decide) rfl rfl rfl (Nat.le_of_ble_eq_true rfl) (fun _ _ => rfl) rfl ?_
  show SW sc m_X10_survey _ _ _ 66 [some (.ref r0), some (.int l1), some (.int l2), some (.int l3), some (.int l4), some (.int l5), some (.int l6), none, none] [] g4 P
  refine sw_aload_n dX10_survey_66 rfl ?_
  refine sw_iload_n dX10_survey_67 rfl ?_
  refine sw_cV dX10_survey_68 lv_X10_225 hm7 hr7 rfl (by decide) rfl rfl rfl (Nat.le_of_ble_eq_true rfl) (fun _ _ => rfl) rfl ?_
  show SW sc m_X10_survey _ _ _ 71 [some (.ref r0), some (.int l1), some (.int l2), some (.int l3), some (.int l4), some (.int l5), some (.int l6), none, none] [] g7 P
  refine sw_iconst (v := 1) dX10_survey_71 (by decide) ?_
  refine sw_iload_n dX10_survey_72 rfl ?_
  refine sw_ishl dX10_survey_73 ?_
  refine sw_iconst (v := 1) dX10_survey_74 (by decide) ?_
  refine sw_isub dX10_survey_75 ?_
  refine sw_istore dX10_survey_76 (by decide) rfl ?_
  show SW sc m_X10_survey _ _ _ 78 [some (.ref r0), some (.int l1), some (.int l2), some (.int l3), some (.int l4), some (.int l5), some (.int l6), some (.int ((1 <<< (l1 &&& 31)) - 1)), none] [] g7 P
  refine sw_iload dX10_survey_78 rfl ?_
  refine sw_aload_n dX10_survey_80 rfl ?_
  refine sw_iload dX10_survey_81 rfl ?_
  refine sw_cV dX10_survey_83 lv_X10_298 hm17 hr17 rfl (by decide) rfl rfl rfl (Nat.le_of_ble_eq_true rfl) (fun _ _ => rfl) rfl ?_
  show SW sc m_X10_survey _ _ _ 86 [some (.ref r0), some (.int l1), some (.int l2), some (.int l3), some (.int l4), some (.int l5), some (.int l6), some (.int ((1 <<< (l1 &&& 31)) - 1)), none] [.int v17, .int l5] g17 P
  refine sw_iadd dX10_survey_86 ?_
  refine sw_istore dX10_survey_87 (by decide) rfl ?_
  show SW sc m_X10_survey _ _ _ 89 [some (.ref r0), some (.int l1), some (.int l2), some (.int l3), some (.int l4), some (.int (l5 + v17)), some (.int l6), some (.int ((1 <<< (l1 &&& 31)) - 1)), none] [] g17 P
  refine sw_aload_n dX10_survey_89 rfl ?_
  refine sw_getf dX10_survey_90 lf_X10_53 hc21 hv21 ?_
  refine sw_iload_n dX10_survey_93 rfl ?_
  refine sw_aload_n dX10_survey_94 rfl ?_
  refine sw_iload dX10_survey_95 rfl ?_
  refine sw_cV dX10_survey_97 lv_X10_136 hm25 hr25 rfl (by decide) rfl rfl rfl (Nat.le_of_ble_eq_true rfl) (fun _ _ => rfl) rfl ?_
  show SW sc m_X10_survey _ _ _ 100 [some (.ref r0), some (.int l1), some (.int l2), some (.int l3), some (.int l4), some (.int (l5 + v17)), some (.int l6), some (.int ((1 <<< (l1 &&& 31)) - 1)), none] [.int v25, .int l3, .ref a21] g25 P
  refine sw_iast dX10_survey_100 hc26 ho26 hl26 ?_
  refine sw_iconst (v := 0) dX10_survey_101 (by decide) ?_
  refine sw_istore dX10_survey_102 (by decide) rfl ?_
  show SW sc m_X10_survey _ _ _ 104 [some (.ref r0), some (.int l1), some (.int l2), some (.int l3), some (.int l4), some (.int (l5 + v17)), some (.int l6), some (.int ((1 <<< (l1 &&& 31)) - 1)), some (.int 0)] [] ((g25).set a21 (100, vs26.set l3.toNatClampNeg (.int v25))) P
  exact (sw_fg [false, false, false, false, false, false, false, true, false] rfl (k))
theorem b_X10_survey_104 {r0 : Nat} {l1 : Int32} {l2 : Int32} {l3 : Int32} {l4 : Int32} {l5 : Int32} {l6 : Int32} {l8 : Int32} {fs2 : List Value} {a2 : Nat} {vs4 : List Value} {x4 : Int32} {fs6 : List Value} {a6 : Nat} {vs8 : List Value} {x8 : Int32} (hc2 : (h)[r0]? = some (10, fs2)) (hv2 : fs2[26]? = some (.ref a2)) (hc4 : (h)[a2]? = some (100, vs4)) (ho4 : ¬ l8 < 0) (hi4 : vs4[l8.toNatClampNeg]? = some (.int x4)) (hc6 : (h)[r0]? = some (10, fs6)) (hv6 : fs6[26]? = some (.ref a6)) (hc8 : (h)[a6]? = some (100, vs8)) (ho8 : ¬ l3 < 0) (hi8 : vs8[l3.toNatClampNeg]? = some (.int x8)) (kt : x4 = x8 → SW sc m_X10_survey d rc rs 126 [some (.ref r0), some (.int l1), some (.int l2), some (.int l3), some (.int l4), some (.int l5), some (.int l6), none, some (.int l8)] [] h P) (kf : ¬ (x4 = x8) → SW sc m_X10_survey d rc rs 120 [some (.ref r0), some (.int l1), some (.int l2), some (.int l3), some (.int l4), some (.int l5), some (.int l6), none, some (.int l8)] [] h P) : SW sc m_X10_survey d rc rs 104 [some (.ref r0), some (.int l1), some (.int l2), some (.int l3), some (.int l4), some (.int l5), some (.int l6), none, some (.int l8)] [] h P := by
  refine sw_aload_n dX10_survey_104 rfl ?_
  refine sw_getf dX10_survey_105 lf_X10_53 hc2 hv2 ?_
  refine sw_iload dX10_survey_108 rfl ?_
  refine sw_iald dX10_survey_110 hc4 ho4 hi4 ?_
  refine sw_aload_n dX10_survey_111 rfl ?_
  refine sw_getf dX10_survey_112 lf_X10_53 hc6 hv6 ?_
  refine sw_iload_n dX10_survey_115 rfl ?_
  refine sw_iald dX10_survey_116 hc8 ho8 hi8 ?_
  exact sw_icmp_eq dX10_survey_117 (by decide) (fun q => (kt q)) (fun q => (kf q))
theorem b_X10_survey_120 {r0 : Nat} {l1 : Int32} {l2 : Int32} {l3 : Int32} {l4 : Int32} {l5 : Int32} {l6 : Int32} {l8 : Int32} (k : SW sc m_X10_survey d rc rs 104 [some (.ref r0), some (.int l1), some (.int l2), some (.int l3), some (.int l4), some (.int l5), some (.int l6), none, some (.int (l8 + 1))] [] h P) : SW sc m_X10_survey d rc rs 120 [some (.ref r0), some (.int l1), some (.int l2), some (.int l3), some (.int l4), some (.int l5), some (.int l6), none, some (.int l8)] [] h P := by
  refine sw_iinc (v := l8 + 1) dX10_survey_120 rfl rfl (by decide) rfl ?_
  show SW sc m_X10_survey _ _ _ 123 [some (.ref r0), some (.int l1), some (.int l2), some (.int l3), some (.int l4), some (.int l5), some (.int l6), none, some (.int (l8 + 1))] [] h P
  exact sw_goto dX10_survey_123 (by decide) (k)
theorem b_X10_survey_126 {r0 : Nat} {l1 : Int32} {l2 : Int32} {l3 : Int32} {l4 : Int32} {l5 : Int32} {l6 : Int32} {l8 : Int32} (kt : l3 ≤ l8 → SW sc m_X10_survey d rc rs 135 [some (.ref r0), some (.int l1), some (.int l2), some (.int l3), none, some (.int l5), some (.int l6), none, none] [] h P) (kf : ¬ (l3 ≤ l8) → SW sc m_X10_survey d rc rs 132 [some (.ref r0), some (.int l1), some (.int l2), some (.int l3), some (.int l4), some (.int l5), some (.int l6), none, none] [] h P) : SW sc m_X10_survey d rc rs 126 [some (.ref r0), some (.int l1), some (.int l2), some (.int l3), some (.int l4), some (.int l5), some (.int l6), none, some (.int l8)] [] h P := by
  refine sw_iload dX10_survey_126 rfl ?_
  refine sw_iload_n dX10_survey_128 rfl ?_
  exact sw_icmp_ge dX10_survey_129 (by decide) (fun q => (sw_fg [false, false, false, false, true, false, false, false, true] rfl (kt q))) (fun q => (sw_fg [false, false, false, false, false, false, false, false, true] rfl (kf q)))
theorem b_X10_survey_132 {r0 : Nat} {l1 : Int32} {l2 : Int32} {l3 : Int32} {l4 : Int32} {l5 : Int32} {l6 : Int32} (k : SW sc m_X10_survey d rc rs 142 [some (.ref r0), some (.int l1), some (.int l2), some (.int l3), some (.int l4), some (.int l5), some (.int l6), none, none] [] h P) : SW sc m_X10_survey d rc rs 132 [some (.ref r0), some (.int l1), some (.int l2), some (.int l3), some (.int l4), some (.int l5), some (.int l6), none, none] [] h P := by
  exact sw_goto dX10_survey_132 (by decide) (k)
theorem b_X10_survey_135 {r0 : Nat} {l1 : Int32} {l2 : Int32} {l3 : Int32} {l5 : Int32} {l6 : Int32} (k : SW sc m_X10_survey d rc rs 142 [some (.ref r0), some (.int l1), some (.int l2), some (.int (l3 + 1)), some (.int l6), some (.int l5), some (.int l6), none, none] [] h P) : SW sc m_X10_survey d rc rs 135 [some (.ref r0), some (.int l1), some (.int l2), some (.int l3), none, some (.int l5), some (.int l6), none, none] [] h P := by
  refine sw_iinc (v := l3 + 1) dX10_survey_135 rfl rfl (by decide) rfl ?_
  show SW sc m_X10_survey _ _ _ 138 [some (.ref r0), some (.int l1), some (.int l2), some (.int (l3 + 1)), none, some (.int l5), some (.int l6), none, none] [] h P
  refine sw_iload dX10_survey_138 rfl ?_
  refine sw_istore dX10_survey_140 (by decide) rfl ?_
  show SW sc m_X10_survey _ _ _ 142 [some (.ref r0), some (.int l1), some (.int l2), some (.int (l3 + 1)), some (.int l6), some (.int l5), some (.int l6), none, none] [] h P
  exact (k)
theorem b_X10_survey_142 {r0 : Nat} {l1 : Int32} {l2 : Int32} {l3 : Int32} {l4 : Int32} {l5 : Int32} {l6 : Int32} (k : SW sc m_X10_survey d rc rs 50 [some (.ref r0), some (.int l1), some (.int l2), some (.int l3), some (.int l4), some (.int l5), some (.int (l6 + 1)), none, none] [] h P) : SW sc m_X10_survey d rc rs 142 [some (.ref r0), some (.int l1), some (.int l2), some (.int l3), some (.int l4), some (.int l5), some (.int l6), none, none] [] h P := by
  refine sw_iinc (v := l6 + 1) dX10_survey_142 rfl rfl (by decide) rfl ?_
  show SW sc m_X10_survey _ _ _ 145 [some (.ref r0), some (.int l1), some (.int l2), some (.int l3), some (.int l4), some (.int l5), some (.int (l6 + 1)), none, none] [] h P
  exact sw_goto dX10_survey_145 (by decide) (k)
theorem b_X10_survey_148 {r0 : Nat} {l2 : Int32} {l3 : Int32} {l4 : Int32} {l5 : Int32} {fs3 : List Value} (hc3 : (h)[r0]? = some (10, fs3)) (hk3 : 9 < fs3.length) (hz3 : narrow .boolean (.int 0) = .int 0 ∧ fits .boolean (.int 0) = true) (kt : ¬ l2 = 0 → SW sc m_X10_survey d rc rs 161 [none, none, some (.int l2), none, some (.int l4), some (.int l5), none, none, none] [] ((h).set r0 (10, fs3.set 9 (.int 0))) P) (kf : l2 = 0 → SW sc m_X10_survey d rc rs 157 [none, none, none, some (.int l3), none, none, none, none, none] [] ((h).set r0 (10, fs3.set 9 (.int 0))) P) : SW sc m_X10_survey d rc rs 148 [some (.ref r0), none, some (.int l2), some (.int l3), some (.int l4), some (.int l5), none, none, none] [] h P := by
  refine sw_aload_n dX10_survey_148 rfl ?_
  refine sw_iconst (v := 0) dX10_survey_149 (by decide) ?_
  refine sw_putf dX10_survey_150 lp_X10_56 hc3 hk3 (fun _ _ => hz3) ?_
  refine sw_iload_n dX10_survey_153 rfl ?_
  exact sw_if_ne dX10_survey_154 (by decide) (fun q => (sw_fg [true, false, false, true, false, false, false, false, false] rfl (kt q))) (fun q => (sw_fg [true, false, true, false, true, true, false, false, false] rfl (kf q)))
theorem b_X10_survey_157 {l3 : Int32} (k : SW sc m_X10_survey d rc rs 173 [none, none, none, none, none, none, none, none, none] [.int l3] h P) : SW sc m_X10_survey d rc rs 157 [none, none, none, some (.int l3), none, none, none, none, none] [] h P := by
  refine sw_iload_n dX10_survey_157 rfl ?_
  exact sw_goto dX10_survey_158 (by decide) (sw_fg [false, false, false, true, false, false, false, false, false] rfl (k))
theorem b_X10_survey_161 {l2 : Int32} {l4 : Int32} {l5 : Int32} (kt : ¬ l2 = 1 → SW sc m_X10_survey d rc rs 171 [none, none, none, none, none, some (.int l5), none, none, none] [] h P) (kf : l2 = 1 → SW sc m_X10_survey d rc rs 166 [none, none, none, none, some (.int l4), none, none, none, none] [] h P) : SW sc m_X10_survey d rc rs 161 [none, none, some (.int l2), none, some (.int l4), some (.int l5), none, none, none] [] h P := by
  refine sw_iload_n dX10_survey_161 rfl ?_
  refine sw_iconst (v := 1) dX10_survey_162 (by decide) ?_
  exact sw_icmp_ne dX10_survey_163 (by decide) (fun q => (sw_fg [false, false, true, false, true, false, false, false, false] rfl (kt q))) (fun q => (sw_fg [false, false, true, false, false, true, false, false, false] rfl (kf q)))
theorem b_X10_survey_166 {l4 : Int32} (k : SW sc m_X10_survey d rc rs 173 [none, none, none, none, none, none, none, none, none] [.int l4] h P) : SW sc m_X10_survey d rc rs 166 [none, none, none, none, some (.int l4), none, none, none, none] [] h P := by
  refine sw_iload dX10_survey_166 rfl ?_
  exact sw_goto dX10_survey_168 (by decide) (sw_fg [false, false, false, false, true, false, false, false, false] rfl (k))
theorem b_X10_survey_171 {l5 : Int32} (k : SW sc m_X10_survey d rc rs 173 [none, none, none, none, none, none, none, none, none] [.int l5] h P) : SW sc m_X10_survey d rc rs 171 [none, none, none, none, none, some (.int l5), none, none, none] [] h P := by
  refine sw_iload dX10_survey_171 rfl ?_
  exact (sw_fg [false, false, false, false, false, true, false, false, false] rfl (k))
theorem b_X10_survey_173 {s0 : Int32} (hP : P (.inl (some (.int s0))) h) : SW sc m_X10_survey d rc rs 173 [none, none, none, none, none, none, none, none, none] [.int s0] h P := by
  exact sw_ret (v := (some (.int s0))) dX10_survey_173 rt_i hP
theorem b_X10_counts_0 {r0 : Nat} {l1 : Int32} {l2 : Int32} {fs2 : List Value} {a2 : Nat} {vs5 : List Value} {x5 : Int32} {vs8 : List Value} (hc2 : (h)[r0]? = some (10, fs2)) (hv2 : fs2[5]? = some (.ref a2)) (hc5 : (h)[a2]? = some (100, vs5)) (ho5 : ¬ l1 < 0) (hi5 : vs5[l1.toNatClampNeg]? = some (.int x5)) (hc8 : (h)[a2]? = some (100, vs8)) (ho8 : ¬ l1 < 0) (hl8 : l1.toNatClampNeg < vs8.length) (hP : P (.inl (some (.int l2))) ((h).set a2 (100, vs8.set l1.toNatClampNeg (.int (x5 + 1))))) : SW sc m_X10_counts d rc rs 0 [some (.ref r0), some (.int l1), some (.int l2)] [] h P := by
  refine sw_aload_n dX10_counts_0 rfl ?_
  refine sw_getf dX10_counts_1 lf_X10_32 hc2 hv2 ?_
  refine sw_iload_n dX10_counts_4 rfl ?_
  refine sw_dup2 dX10_counts_5 (fun _ _ => rfl) (fun _ _ => rfl) ?_
  refine sw_iald dX10_counts_6 hc5 ho5 hi5 ?_
  refine sw_iconst (v := 1) dX10_counts_7 (by decide) ?_
  refine sw_iadd dX10_counts_8 ?_
  refine sw_iast dX10_counts_9 hc8 ho8 hl8 ?_
  refine sw_iload_n dX10_counts_10 rfl ?_
  exact sw_ret (v := (some (.int l2))) dX10_counts_11 rt_i hP
theorem b_X10_link_0 {r0 : Nat} {l1 : Int32} {l2 : Int32} {v4 : Int32} {g4 : ab_H} {fs4 : List Value} (hr4 : (h)[r0]? = some (10, fs4)) (hm4 : MSE m_X10_isVertex d [.ref r0, .int l1] h (some (.int v4)) g4) (kt : v4 = 0 → SW sc m_X10_link (d + 1) rc rs 17 [some (.ref r0), some (.int l1), some (.int l2), none] [.ref r0] g4 P) (kf : ¬ (v4 = 0) → SW sc m_X10_link (d + 1) rc rs 9 [some (.ref r0), some (.int l1), some (.int l2), none] [.ref r0] g4 P) : SW sc m_X10_link (d + 1) rc rs 0 [some (.ref r0), some (.int l1), some (.int l2), none] [] h P := by
  refine sw_aload_n dX10_link_0 rfl ?_
  refine sw_aload_n dX10_link_1 rfl ?_
  refine sw_iload_n dX10_link_2 rfl ?_
  refine sw_cV dX10_link_3 lv_X10_283 hm4 hr4 rfl (by decide) rfl rfl rfl (Nat.le_of_ble_eq_true rfl) (fun _ _ => rfl) rfl ?_
  show SW sc m_X10_link _ _ _ 6 [some (.ref r0), some (.int l1), some (.int l2), none] [.int v4, .ref r0] g4 P
  exact sw_if_eq dX10_link_6 (by decide) (fun q => (kt q)) (fun q => (kf q))
theorem b_X10_link_9 {r0 : Nat} {l1 : Int32} {l2 : Int32} {q0 : Nat} {v3 : Int32} {g3 : ab_H} {fs3 : List Value} (hr3 : (h)[r0]? = some (10, fs3)) (hm3 : MSE m_X10_isVertex d [.ref r0, .int l2] h (some (.int v3)) g3) (kt : ¬ v3 = 0 → SW sc m_X10_link (d + 1) rc rs 21 [some (.ref r0), some (.int l1), some (.int l2), none] [.ref q0] g3 P) (kf : v3 = 0 → SW sc m_X10_link (d + 1) rc rs 17 [some (.ref r0), some (.int l1), some (.int l2), none] [.ref q0] g3 P) : SW sc m_X10_link (d + 1) rc rs 9 [some (.ref r0), some (.int l1), some (.int l2), none] [.ref q0] h P := by
  refine sw_aload_n dX10_link_9 rfl ?_
  refine sw_iload_n dX10_link_10 rfl ?_
  refine sw_cV dX10_link_11 lv_X10_283 hm3 hr3 rfl (by decide) rfl rfl rfl (Nat.le_of_ble_eq_true rfl) (fun _ _ => rfl) rfl ?_
  show SW sc m_X10_link _ _ _ 14 [some (.ref r0), some (.int l1), some (.int l2), none] [.int v3, .ref q0] g3 P
  exact sw_if_ne dX10_link_14 (by decide) (fun q => (kt q)) (fun q => (kf q))
theorem b_X10_link_17 {r0 : Nat} {l1 : Int32} {l2 : Int32} {q0 : Nat} (k : SW sc m_X10_link d rc rs 22 [some (.ref r0), some (.int l1), some (.int l2), none] [.int 1, .ref q0] h P) : SW sc m_X10_link d rc rs 17 [some (.ref r0), some (.int l1), some (.int l2), none] [.ref q0] h P := by
  refine sw_iconst (v := 1) dX10_link_17 (by decide) ?_
  exact sw_goto dX10_link_18 (by decide) (k)
theorem b_X10_link_21 {r0 : Nat} {l1 : Int32} {l2 : Int32} {q0 : Nat} (k : SW sc m_X10_link d rc rs 22 [some (.ref r0), some (.int l1), some (.int l2), none] [.int 0, .ref q0] h P) : SW sc m_X10_link d rc rs 21 [some (.ref r0), some (.int l1), some (.int l2), none] [.ref q0] h P := by
  refine sw_iconst (v := 0) dX10_link_21 (by decide) ?_
  exact (k)
theorem b_X10_link_22 {r0 : Nat} {l1 : Int32} {l2 : Int32} {q0 : Nat} {s1 : Int32} {v2 : Int32} {g2 : ab_H} {fs2 : List Value} (hr2 : (h)[q0]? = some (10, fs2)) (hm2 : MSE m_X10_fails d [.ref q0, .int s1, .int 0] h (some (.int v2)) g2) (kt : v2 = 0 → SW sc m_X10_link (d + 1) rc rs 31 [some (.ref r0), some (.int l1), some (.int l2), none] [] g2 P) (kf : ¬ (v2 = 0) → SW sc m_X10_link (d + 1) rc rs 29 [none, none, none, none] [] g2 P) : SW sc m_X10_link (d + 1) rc rs 22 [some (.ref r0), some (.int l1), some (.int l2), none] [.int s1, .ref q0] h P := by
  refine sw_iconst (v := 0) dX10_link_22 (by decide) ?_
  refine sw_cV dX10_link_23 lv_X10_286 hm2 hr2 rfl (by decide) rfl rfl rfl (Nat.le_of_ble_eq_true rfl) (fun _ _ => rfl) rfl ?_
  show SW sc m_X10_link _ _ _ 26 [some (.ref r0), some (.int l1), some (.int l2), none] [.int v2] g2 P
  exact sw_if_eq dX10_link_26 (by decide) (fun q => (kt q)) (fun q => (sw_fg [true, true, true, false] rfl (kf q)))
theorem b_X10_link_29  (hP : P (.inl (some (.int 0))) h) : SW sc m_X10_link d rc rs 29 [none, none, none, none] [] h P := by
  refine sw_iconst (v := 0) dX10_link_29 (by decide) ?_
  exact sw_ret (v := (some (.int 0))) dX10_link_30 rt_i hP
theorem b_X10_link_31 {r0 : Nat} {l1 : Int32} {l2 : Int32} (kt : ¬ l1 = l2 → SW sc m_X10_link d rc rs 40 [some (.ref r0), some (.int l1), some (.int l2), none] [] h P) (kf : l1 = l2 → SW sc m_X10_link d rc rs 36 [some (.ref r0), some (.int l1), some (.int l2), none] [] h P) : SW sc m_X10_link d rc rs 31 [some (.ref r0), some (.int l1), some (.int l2), none] [] h P := by
  refine sw_iload_n dX10_link_31 rfl ?_
  refine sw_iload_n dX10_link_32 rfl ?_
  exact sw_icmp_ne dX10_link_33 (by decide) (fun q => (kt q)) (fun q => (kf q))
theorem b_X10_link_36 {r0 : Nat} {l1 : Int32} {l2 : Int32} (k : SW sc m_X10_link d rc rs 74 [some (.ref r0), some (.int l1), some (.int l2), none] [.int 1] h P) : SW sc m_X10_link d rc rs 36 [some (.ref r0), some (.int l1), some (.int l2), none] [] h P := by
  refine sw_iconst (v := 1) dX10_link_36 (by decide) ?_
  exact sw_goto dX10_link_37 (by decide) (k)
theorem b_X10_link_40 {r0 : Nat} {l1 : Int32} {l2 : Int32} {fs2 : List Value} {a2 : Nat} {vs4 : List Value} {x4 : Int32} {v6 : Int32} {g6 : ab_H} (hc2 : (h)[r0]? = some (10, fs2)) (hv2 : fs2[1]? = some (.ref a2)) (hc4 : (h)[a2]? = some (100, vs4)) (ho4 : ¬ l1 < 0) (hi4 : vs4[l1.toNatClampNeg]? = some (.int x4)) (hm6 : MSE m_X10_has d [.int x4, .int l2] h (some (.int v6)) g6) (kt : v6 = 0 → SW sc m_X10_link (d + 1) rc rs 57 [some (.ref r0), some (.int l1), some (.int l2), none] [] g6 P) (kf : ¬ (v6 = 0) → SW sc m_X10_link (d + 1) rc rs 53 [some (.ref r0), some (.int l1), some (.int l2), none] [] g6 P) : SW sc m_X10_link (d + 1) rc rs 40 [some (.ref r0), some (.int l1), some (.int l2), none] [] h P := by
  refine sw_aload_n dX10_link_40 rfl ?_
  refine sw_getf dX10_link_41 lf_X10_19 hc2 hv2 ?_
  refine sw_iload_n dX10_link_44 rfl ?_
  refine sw_iald dX10_link_45 hc4 ho4 hi4 ?_
  refine sw_iload_n dX10_link_46 rfl ?_
  refine sw_cS dX10_link_47 ls_X10_70 hm6 rfl rfl (Nat.le_of_ble_eq_true rfl) (fun _ _ => rfl) rfl ?_
  show SW sc m_X10_link _ _ _ 50 [some (.ref r0), some (.int l1), some (.int l2), none] [.int v6] g6 P
  exact sw_if_eq dX10_link_50 (by decide) (fun q => (kt q)) (fun q => (kf q))
theorem b_X10_link_53 {r0 : Nat} {l1 : Int32} {l2 : Int32} (k : SW sc m_X10_link d rc rs 74 [some (.ref r0), some (.int l1), some (.int l2), none] [.int 2] h P) : SW sc m_X10_link d rc rs 53 [some (.ref r0), some (.int l1), some (.int l2), none] [] h P := by
  refine sw_iconst (v := 2) dX10_link_53 (by decide) ?_
  exact sw_goto dX10_link_54 (by decide) (k)
theorem b_X10_link_57 {r0 : Nat} {l1 : Int32} {l2 : Int32} {v3 : Int32} {g3 : ab_H} {fs3 : List Value} {v5 : Int32} {g5 : ab_H} (hr3 : (h)[r0]? = some (10, fs3)) (hm3 : MSE m_X10_component d [.ref r0, .int l1] h (some (.int v3)) g3) (hm5 : MSE m_X10_has d [.int v3, .int l2] g3 (some (.int v5)) g5) (kt : v5 = 0 → SW sc m_X10_link (d + 1) rc rs 73 [some (.ref r0), some (.int l1), some (.int l2), none] [] g5 P) (kf : ¬ (v5 = 0) → SW sc m_X10_link (d + 1) rc rs 69 [some (.ref r0), some (.int l1), some (.int l2), none] [] g5 P) : SW sc m_X10_link (d + 1) rc rs 57 [some (.ref r0), some (.int l1), some (.int l2), none] [] h P := by
  refine sw_aload_n dX10_link_57 rfl ?_
  refine sw_iload_n dX10_link_58 rfl ?_
  refine sw_cV dX10_link_59 lv_X10_84 hm3 hr3 rfl (by decide) rfl rfl rfl (Nat.le_of_ble_eq_true rfl) (fun _ _ => rfl) rfl ?_
  show SW sc m_X10_link _ _ _ 62 [some (.ref r0), some (.int l1), some (.int l2), none] [.int v3] g3 P
  refine sw_iload_n dX10_link_62 rfl ?_
  refine sw_cS dX10_link_63 ls_X10_70 hm5 rfl rfl (Nat.le_of_ble_eq_true rfl) (fun _ _ => rfl) rfl ?_
  show SW sc m_X10_link _ _ _ 66 [some (.ref r0), some (.int l1), some (.int l2), none] [.int v5] g5 P
  exact sw_if_eq dX10_link_66 (by decide) (fun q => (kt q)) (fun q => (kf q))
theorem b_X10_link_69 {r0 : Nat} {l1 : Int32} {l2 : Int32} (k : SW sc m_X10_link d rc rs 74 [some (.ref r0), some (.int l1), some (.int l2), none] [.int 3] h P) : SW sc m_X10_link d rc rs 69 [some (.ref r0), some (.int l1), some (.int l2), none] [] h P := by
  refine sw_iconst (v := 3) dX10_link_69 (by decide) ?_
  exact sw_goto dX10_link_70 (by decide) (k)
theorem b_X10_link_73 {r0 : Nat} {l1 : Int32} {l2 : Int32} (k : SW sc m_X10_link d rc rs 74 [some (.ref r0), some (.int l1), some (.int l2), none] [.int 0] h P) : SW sc m_X10_link d rc rs 73 [some (.ref r0), some (.int l1), some (.int l2), none] [] h P := by
  refine sw_iconst (v := 0) dX10_link_73 (by decide) ?_
  exact (k)
theorem b_X10_link_74 {r0 : Nat} {l1 : Int32} {l2 : Int32} {s0 : Int32} (kt : s0 ≤ 0 → SW sc m_X10_link d rc rs 86 [some (.ref r0), some (.int l1), some (.int l2), none] [] h P) (kf : ¬ (s0 ≤ 0) → SW sc m_X10_link d rc rs 79 [some (.ref r0), none, none, some (.int s0)] [] h P) : SW sc m_X10_link d rc rs 74 [some (.ref r0), some (.int l1), some (.int l2), none] [.int s0] h P := by
  refine sw_istore_n dX10_link_74 (by decide) rfl ?_
  show SW sc m_X10_link _ _ _ 75 [some (.ref r0), some (.int l1), some (.int l2), some (.int s0)] [] h P
  refine sw_iload_n dX10_link_75 rfl ?_
  exact sw_if_le dX10_link_76 (by decide) (fun q => (sw_fg [false, false, false, true] rfl (kt q))) (fun q => (sw_fg [false, true, true, false] rfl (kf q)))
theorem b_X10_link_79 {r0 : Nat} {l3 : Int32} {v4 : Int32} {g4 : ab_H} {fs4 : List Value} (hr4 : (h)[r0]? = some (10, fs4)) (hm4 : MSE m_X10_counts d [.ref r0, .int 5, .int l3] h (some (.int v4)) g4) (hP : P (.inl (some (.int v4))) g4) : SW sc m_X10_link (d + 1) rc rs 79 [some (.ref r0), none, none, some (.int l3)] [] h P := by
  refine sw_aload_n dX10_link_79 rfl ?_
  refine sw_iconst (v := 5) dX10_link_80 (by decide) ?_
  refine sw_iload_n dX10_link_81 rfl ?_
  refine sw_cV dX10_link_82 lv_X10_347 hm4 hr4 rfl (by decide) rfl rfl rfl (Nat.le_of_ble_eq_true rfl) (fun _ _ => rfl) rfl ?_
  show SW sc m_X10_link _ _ _ 85 [some (.ref r0), none, none, some (.int l3)] [.int v4] g4 P
  exact sw_ret (v := (some (.int v4))) dX10_link_85 rt_i hP
theorem b_X10_link_86 {r0 : Nat} {l1 : Int32} {l2 : Int32} {g2 : ab_H} {fs2 : List Value} {fs4 : List Value} {a4 : Nat} {g7 : ab_H} {v11 : Int32} {g11 : ab_H} {fs11 : List Value} (hr2 : (h)[r0]? = some (10, fs2)) (hm2 : MSE m_X10_remembers d [.ref r0] h none g2) (hc4 : (g2)[r0]? = some (10, fs4)) (hv4 : fs4[1]? = some (.ref a4)) (hm7 : MSE m_X10_joins d [.ref a4, .int l1, .int l2] g2 none g7) (hr11 : (g7)[r0]? = some (10, fs11)) (hm11 : MSE m_X10_counts d [.ref r0, .int 0, .int 0] g7 (some (.int v11)) g11) (hP : P (.inl (some (.int v11))) g11) : SW sc m_X10_link (d + 1) rc rs 86 [some (.ref r0), some (.int l1), some (.int l2), none] [] h P := by
  refine sw_aload_n dX10_link_86 rfl ?_
  refine sw_cV dX10_link_87 lv_X10_350 hm2 hr2 rfl (by decide) rfl rfl rfl (Nat.le_of_ble_eq_true rfl) (fun _ _ => rfl) rfl ?_
  show SW sc m_X10_link _ _ _ 90 [some (.ref r0), some (.int l1), some (.int l2), none] [] g2 P
  refine sw_aload_n dX10_link_90 rfl ?_
  refine sw_getf dX10_link_91 lf_X10_19 hc4 hv4 ?_
  refine sw_iload_n dX10_link_94 rfl ?_
  refine sw_iload_n dX10_link_95 rfl ?_
  refine sw_cS dX10_link_96 ls_X10_205 hm7 rfl rfl (Nat.le_of_ble_eq_true rfl) (fun _ _ => rfl) rfl ?_
  show SW sc m_X10_link _ _ _ 99 [some (.ref r0), some (.int l1), some (.int l2), none] [] g7 P
  refine sw_aload_n dX10_link_99 rfl ?_
  refine sw_iconst (v := 0) dX10_link_100 (by decide) ?_
  refine sw_iconst (v := 0) dX10_link_101 (by decide) ?_
  refine sw_cV dX10_link_102 lv_X10_347 hm11 hr11 rfl (by decide) rfl rfl rfl (Nat.le_of_ble_eq_true rfl) (fun _ _ => rfl) rfl ?_
  show SW sc m_X10_link _ _ _ 105 [some (.ref r0), some (.int l1), some (.int l2), none] [.int v11] g11 P
  exact sw_ret (v := (some (.int v11))) dX10_link_105 rt_i hP
theorem b_X10_cut_0 {r0 : Nat} {l1 : Int32} {l2 : Int32} {v4 : Int32} {g4 : ab_H} {fs4 : List Value} (hr4 : (h)[r0]? = some (10, fs4)) (hm4 : MSE m_X10_isVertex d [.ref r0, .int l1] h (some (.int v4)) g4) (kt : v4 = 0 → SW sc m_X10_cut (d + 1) rc rs 17 [some (.ref r0), some (.int l1), some (.int l2), none] [.ref r0] g4 P) (kf : ¬ (v4 = 0) → SW sc m_X10_cut (d + 1) rc rs 9 [some (.ref r0), some (.int l1), some (.int l2), none] [.ref r0] g4 P) : SW sc m_X10_cut (d + 1) rc rs 0 [some (.ref r0), some (.int l1), some (.int l2), none] [] h P := by
  refine sw_aload_n dX10_cut_0 rfl ?_
  refine sw_aload_n dX10_cut_1 rfl ?_
  refine sw_iload_n dX10_cut_2 rfl ?_
  refine sw_cV dX10_cut_3 lv_X10_283 hm4 hr4 rfl (by decide) rfl rfl rfl (Nat.le_of_ble_eq_true rfl) (fun _ _ => rfl) rfl ?_
  show SW sc m_X10_cut _ _ _ 6 [some (.ref r0), some (.int l1), some (.int l2), none] [.int v4, .ref r0] g4 P
  exact sw_if_eq dX10_cut_6 (by decide) (fun q => (kt q)) (fun q => (kf q))
theorem b_X10_cut_9 {r0 : Nat} {l1 : Int32} {l2 : Int32} {q0 : Nat} {v3 : Int32} {g3 : ab_H} {fs3 : List Value} (hr3 : (h)[r0]? = some (10, fs3)) (hm3 : MSE m_X10_isVertex d [.ref r0, .int l2] h (some (.int v3)) g3) (kt : ¬ v3 = 0 → SW sc m_X10_cut (d + 1) rc rs 21 [some (.ref r0), some (.int l1), some (.int l2), none] [.ref q0] g3 P) (kf : v3 = 0 → SW sc m_X10_cut (d + 1) rc rs 17 [some (.ref r0), some (.int l1), some (.int l2), none] [.ref q0] g3 P) : SW sc m_X10_cut (d + 1) rc rs 9 [some (.ref r0), some (.int l1), some (.int l2), none] [.ref q0] h P := by
  refine sw_aload_n dX10_cut_9 rfl ?_
  refine sw_iload_n dX10_cut_10 rfl ?_
  refine sw_cV dX10_cut_11 lv_X10_283 hm3 hr3 rfl (by decide) rfl rfl rfl (Nat.le_of_ble_eq_true rfl) (fun _ _ => rfl) rfl ?_
  show SW sc m_X10_cut _ _ _ 14 [some (.ref r0), some (.int l1), some (.int l2), none] [.int v3, .ref q0] g3 P
  exact sw_if_ne dX10_cut_14 (by decide) (fun q => (kt q)) (fun q => (kf q))
theorem b_X10_cut_17 {r0 : Nat} {l1 : Int32} {l2 : Int32} {q0 : Nat} (k : SW sc m_X10_cut d rc rs 22 [some (.ref r0), some (.int l1), some (.int l2), none] [.int 1, .ref q0] h P) : SW sc m_X10_cut d rc rs 17 [some (.ref r0), some (.int l1), some (.int l2), none] [.ref q0] h P := by
  refine sw_iconst (v := 1) dX10_cut_17 (by decide) ?_
  exact sw_goto dX10_cut_18 (by decide) (k)
theorem b_X10_cut_21 {r0 : Nat} {l1 : Int32} {l2 : Int32} {q0 : Nat} (k : SW sc m_X10_cut d rc rs 22 [some (.ref r0), some (.int l1), some (.int l2), none] [.int 0, .ref q0] h P) : SW sc m_X10_cut d rc rs 21 [some (.ref r0), some (.int l1), some (.int l2), none] [.ref q0] h P := by
  refine sw_iconst (v := 0) dX10_cut_21 (by decide) ?_
  exact (k)
theorem b_X10_cut_22 {r0 : Nat} {l1 : Int32} {l2 : Int32} {q0 : Nat} {s1 : Int32} {v2 : Int32} {g2 : ab_H} {fs2 : List Value} (hr2 : (h)[q0]? = some (10, fs2)) (hm2 : MSE m_X10_fails d [.ref q0, .int s1, .int 0] h (some (.int v2)) g2) (kt : v2 = 0 → SW sc m_X10_cut (d + 1) rc rs 31 [some (.ref r0), some (.int l1), some (.int l2), none] [] g2 P) (kf : ¬ (v2 = 0) → SW sc m_X10_cut (d + 1) rc rs 29 [none, none, none, none] [] g2 P) : SW sc m_X10_cut (d + 1) rc rs 22 [some (.ref r0), some (.int l1), some (.int l2), none] [.int s1, .ref q0] h P := by
  refine sw_iconst (v := 0) dX10_cut_22 (by decide) ?_
  refine sw_cV dX10_cut_23 lv_X10_286 hm2 hr2 rfl (by decide) rfl rfl rfl (Nat.le_of_ble_eq_true rfl) (fun _ _ => rfl) rfl ?_
  show SW sc m_X10_cut _ _ _ 26 [some (.ref r0), some (.int l1), some (.int l2), none] [.int v2] g2 P
  exact sw_if_eq dX10_cut_26 (by decide) (fun q => (kt q)) (fun q => (sw_fg [true, true, true, false] rfl (kf q)))
theorem b_X10_cut_29  (hP : P (.inl (some (.int 0))) h) : SW sc m_X10_cut d rc rs 29 [none, none, none, none] [] h P := by
  refine sw_iconst (v := 0) dX10_cut_29 (by decide) ?_
  exact sw_ret (v := (some (.int 0))) dX10_cut_30 (rt_n (by decide)) hP
theorem b_X10_cut_31 {r0 : Nat} {l1 : Int32} {l2 : Int32} {fs2 : List Value} {a2 : Nat} {vs4 : List Value} {x4 : Int32} {v6 : Int32} {g6 : ab_H} {fs9 : List Value} {a9 : Nat} (hc2 : (h)[r0]? = some (10, fs2)) (hv2 : fs2[1]? = some (.ref a2)) (hc4 : (h)[a2]? = some (100, vs4)) (ho4 : ¬ l1 < 0) (hi4 : vs4[l1.toNatClampNeg]? = some (.int x4)) (hm6 : MSE m_X10_has d [.int x4, .int l2] h (some (.int v6)) g6) (hc9 : (g6)[r0]? = some (10, fs9)) (hv9 : fs9[5]? = some (.ref a9)) (kt : v6 = 0 → SW sc m_X10_cut (d + 1) rc rs 54 [some (.ref r0), some (.int l1), some (.int l2), some (.int v6)] [.ref a9] g6 P) (kf : ¬ (v6 = 0) → SW sc m_X10_cut (d + 1) rc rs 50 [some (.ref r0), some (.int l1), some (.int l2), some (.int v6)] [.ref a9] g6 P) : SW sc m_X10_cut (d + 1) rc rs 31 [some (.ref r0), some (.int l1), some (.int l2), none] [] h P := by
  refine sw_aload_n dX10_cut_31 rfl ?_
  refine sw_getf dX10_cut_32 lf_X10_19 hc2 hv2 ?_
  refine sw_iload_n dX10_cut_35 rfl ?_
  refine sw_iald dX10_cut_36 hc4 ho4 hi4 ?_
  refine sw_iload_n dX10_cut_37 rfl ?_
  refine sw_cS dX10_cut_38 ls_X10_70 hm6 rfl rfl (Nat.le_of_ble_eq_true rfl) (fun _ _ => rfl) rfl ?_
  show SW sc m_X10_cut _ _ _ 41 [some (.ref r0), some (.int l1), some (.int l2), none] [.int v6] g6 P
  refine sw_istore_n dX10_cut_41 (by decide) rfl ?_
  show SW sc m_X10_cut _ _ _ 42 [some (.ref r0), some (.int l1), some (.int l2), some (.int v6)] [] g6 P
  refine sw_aload_n dX10_cut_42 rfl ?_
  refine sw_getf dX10_cut_43 lf_X10_32 hc9 hv9 ?_
  refine sw_iload_n dX10_cut_46 rfl ?_
  exact sw_if_eq dX10_cut_47 (by decide) (fun q => (kt q)) (fun q => (kf q))
theorem b_X10_cut_50 {r0 : Nat} {l1 : Int32} {l2 : Int32} {l3 : Int32} {q0 : Nat} (k : SW sc m_X10_cut d rc rs 56 [some (.ref r0), some (.int l1), some (.int l2), some (.int l3)] [.int 1, .ref q0] h P) : SW sc m_X10_cut d rc rs 50 [some (.ref r0), some (.int l1), some (.int l2), some (.int l3)] [.ref q0] h P := by
  refine sw_iconst (v := 1) dX10_cut_50 (by decide) ?_
  exact sw_goto dX10_cut_51 (by decide) (k)
theorem b_X10_cut_54 {r0 : Nat} {l1 : Int32} {l2 : Int32} {l3 : Int32} {q0 : Nat} (k : SW sc m_X10_cut d rc rs 56 [some (.ref r0), some (.int l1), some (.int l2), some (.int l3)] [.int 6, .ref q0] h P) : SW sc m_X10_cut d rc rs 54 [some (.ref r0), some (.int l1), some (.int l2), some (.int l3)] [.ref q0] h P := by
  refine sw_bipush (v := 6) dX10_cut_54 (by decide) ?_
  exact (k)
theorem b_X10_cut_56 {r0 : Nat} {l1 : Int32} {l2 : Int32} {l3 : Int32} {q0 : Nat} {s1 : Int32} {vs2 : List Value} {x2 : Int32} {vs5 : List Value} (hc2 : (h)[q0]? = some (100, vs2)) (ho2 : ¬ s1 < 0) (hi2 : vs2[s1.toNatClampNeg]? = some (.int x2)) (hc5 : (h)[q0]? = some (100, vs5)) (ho5 : ¬ s1 < 0) (hl5 : s1.toNatClampNeg < vs5.length) (kt : ¬ l3 = 0 → SW sc m_X10_cut d rc rs 67 [some (.ref r0), some (.int l1), some (.int l2), none] [] ((h).set q0 (100, vs5.set s1.toNatClampNeg (.int (x2 + 1)))) P) (kf : l3 = 0 → SW sc m_X10_cut d rc rs 65 [none, none, none, none] [] ((h).set q0 (100, vs5.set s1.toNatClampNeg (.int (x2 + 1)))) P) : SW sc m_X10_cut d rc rs 56 [some (.ref r0), some (.int l1), some (.int l2), some (.int l3)] [.int s1, .ref q0] h P := by
  refine sw_dup2 dX10_cut_56 (fun _ _ => rfl) (fun _ _ => rfl) ?_
  refine sw_iald dX10_cut_57 hc2 ho2 hi2 ?_
  refine sw_iconst (v := 1) dX10_cut_58 (by decide) ?_
  refine sw_iadd dX10_cut_59 ?_
  refine sw_iast dX10_cut_60 hc5 ho5 hl5 ?_
  refine sw_iload_n dX10_cut_61 rfl ?_
  exact sw_if_ne dX10_cut_62 (by decide) (fun q => (sw_fg [false, false, false, true] rfl (kt q))) (fun q => (sw_fg [true, true, true, true] rfl (kf q)))
theorem b_X10_cut_65  (hP : P (.inl (some (.int 0))) h) : SW sc m_X10_cut d rc rs 65 [none, none, none, none] [] h P := by
  refine sw_iconst (v := 0) dX10_cut_65 (by decide) ?_
  exact sw_ret (v := (some (.int 0))) dX10_cut_66 (rt_n (by decide)) hP
theorem b_X10_cut_67 {r0 : Nat} {l1 : Int32} {l2 : Int32} {g2 : ab_H} {fs2 : List Value} {fs4 : List Value} {a4 : Nat} {g7 : ab_H} (hr2 : (h)[r0]? = some (10, fs2)) (hm2 : MSE m_X10_remembers d [.ref r0] h none g2) (hc4 : (g2)[r0]? = some (10, fs4)) (hv4 : fs4[1]? = some (.ref a4)) (hm7 : MSE m_X10_parts d [.ref a4, .int l1, .int l2] g2 none g7) (hP : P (.inl (some (.int 1))) g7) : SW sc m_X10_cut (d + 1) rc rs 67 [some (.ref r0), some (.int l1), some (.int l2), none] [] h P := by
  refine sw_aload_n dX10_cut_67 rfl ?_
  refine sw_cV dX10_cut_68 lv_X10_350 hm2 hr2 rfl (by decide) rfl rfl rfl (Nat.le_of_ble_eq_true rfl) (fun _ _ => rfl) rfl ?_
  show SW sc m_X10_cut _ _ _ 71 [some (.ref r0), some (.int l1), some (.int l2), none] [] g2 P
  refine sw_aload_n dX10_cut_71 rfl ?_
  refine sw_getf dX10_cut_72 lf_X10_19 hc4 hv4 ?_
  refine sw_iload_n dX10_cut_75 rfl ?_
  refine sw_iload_n dX10_cut_76 rfl ?_
  refine sw_cS dX10_cut_77 ls_X10_274 hm7 rfl rfl (Nat.le_of_ble_eq_true rfl) (fun _ _ => rfl) rfl ?_
  show SW sc m_X10_cut _ _ _ 80 [some (.ref r0), some (.int l1), some (.int l2), none] [] g7 P
  refine sw_iconst (v := 1) dX10_cut_80 (by decide) ?_
  exact sw_ret (v := (some (.int 1))) dX10_cut_81 (rt_n (by decide)) hP
theorem b_X10_regraft_0 {r0 : Nat} {l1 : Int32} {l2 : Int32} {l3 : Int32} {v4 : Int32} {g4 : ab_H} {fs4 : List Value} (hr4 : (h)[r0]? = some (10, fs4)) (hm4 : MSE m_X10_isVertex d [.ref r0, .int l1] h (some (.int v4)) g4) (kt : v4 = 0 → SW sc m_X10_regraft (d + 1) rc rs 25 [some (.ref r0), some (.int l1), some (.int l2), some (.int l3)] [.ref r0] g4 P) (kf : ¬ (v4 = 0) → SW sc m_X10_regraft (d + 1) rc rs 9 [some (.ref r0), some (.int l1), some (.int l2), some (.int l3)] [.ref r0] g4 P) : SW sc m_X10_regraft (d + 1) rc rs 0 [some (.ref r0), some (.int l1), some (.int l2), some (.int l3)] [] h P := by
  refine sw_aload_n dX10_regraft_0 rfl ?_
  refine sw_aload_n dX10_regraft_1 rfl ?_
  refine sw_iload_n dX10_regraft_2 rfl ?_
  refine sw_cV dX10_regraft_3 lv_X10_283 hm4 hr4 rfl (by decide) rfl rfl rfl (Nat.le_of_ble_eq_true rfl) (fun _ _ => rfl) rfl ?_
  show SW sc m_X10_regraft _ _ _ 6 [some (.ref r0), some (.int l1), some (.int l2), some (.int l3)] [.int v4, .ref r0] g4 P
  exact sw_if_eq dX10_regraft_6 (by decide) (fun q => (kt q)) (fun q => (kf q))
theorem b_X10_regraft_9 {r0 : Nat} {l1 : Int32} {l2 : Int32} {l3 : Int32} {q0 : Nat} {v3 : Int32} {g3 : ab_H} {fs3 : List Value} (hr3 : (h)[r0]? = some (10, fs3)) (hm3 : MSE m_X10_isVertex d [.ref r0, .int l2] h (some (.int v3)) g3) (kt : v3 = 0 → SW sc m_X10_regraft (d + 1) rc rs 25 [some (.ref r0), some (.int l1), some (.int l2), some (.int l3)] [.ref q0] g3 P) (kf : ¬ (v3 = 0) → SW sc m_X10_regraft (d + 1) rc rs 17 [some (.ref r0), some (.int l1), some (.int l2), some (.int l3)] [.ref q0] g3 P) : SW sc m_X10_regraft (d + 1) rc rs 9 [some (.ref r0), some (.int l1), some (.int l2), some (.int l3)] [.ref q0] h P := by
  refine sw_aload_n dX10_regraft_9 rfl ?_
  refine sw_iload_n dX10_regraft_10 rfl ?_
  refine sw_cV dX10_regraft_11 lv_X10_283 hm3 hr3 rfl (by decide) rfl rfl rfl (Nat.le_of_ble_eq_true rfl) (fun _ _ => rfl) rfl ?_
  show SW sc m_X10_regraft _ _ _ 14 [some (.ref r0), some (.int l1), some (.int l2), some (.int l3)] [.int v3, .ref q0] g3 P
  exact sw_if_eq dX10_regraft_14 (by decide) (fun q => (kt q)) (fun q => (kf q))
theorem b_X10_regraft_17 {r0 : Nat} {l1 : Int32} {l2 : Int32} {l3 : Int32} {q0 : Nat} {v3 : Int32} {g3 : ab_H} {fs3 : List Value} (hr3 : (h)[r0]? = some (10, fs3)) (hm3 : MSE m_X10_isVertex d [.ref r0, .int l3] h (some (.int v3)) g3) (kt : ¬ v3 = 0 → SW sc m_X10_regraft (d + 1) rc rs 29 [some (.ref r0), some (.int l1), some (.int l2), some (.int l3)] [.ref q0] g3 P) (kf : v3 = 0 → SW sc m_X10_regraft (d + 1) rc rs 25 [some (.ref r0), some (.int l1), some (.int l2), some (.int l3)] [.ref q0] g3 P) : SW sc m_X10_regraft (d + 1) rc rs 17 [some (.ref r0), some (.int l1), some (.int l2), some (.int l3)] [.ref q0] h P := by
  refine sw_aload_n dX10_regraft_17 rfl ?_
  refine sw_iload_n dX10_regraft_18 rfl ?_
  refine sw_cV dX10_regraft_19 lv_X10_283 hm3 hr3 rfl (by decide) rfl rfl rfl (Nat.le_of_ble_eq_true rfl) (fun _ _ => rfl) rfl ?_
  show SW sc m_X10_regraft _ _ _ 22 [some (.ref r0), some (.int l1), some (.int l2), some (.int l3)] [.int v3, .ref q0] g3 P
  exact sw_if_ne dX10_regraft_22 (by decide) (fun q => (kt q)) (fun q => (kf q))
theorem b_X10_regraft_25 {r0 : Nat} {l1 : Int32} {l2 : Int32} {l3 : Int32} {q0 : Nat} (k : SW sc m_X10_regraft d rc rs 30 [some (.ref r0), some (.int l1), some (.int l2), some (.int l3)] [.int 1, .ref q0] h P) : SW sc m_X10_regraft d rc rs 25 [some (.ref r0), some (.int l1), some (.int l2), some (.int l3)] [.ref q0] h P := by
  refine sw_iconst (v := 1) dX10_regraft_25 (by decide) ?_
  exact sw_goto dX10_regraft_26 (by decide) (k)
theorem b_X10_regraft_29 {r0 : Nat} {l1 : Int32} {l2 : Int32} {l3 : Int32} {q0 : Nat} (k : SW sc m_X10_regraft d rc rs 30 [some (.ref r0), some (.int l1), some (.int l2), some (.int l3)] [.int 0, .ref q0] h P) : SW sc m_X10_regraft d rc rs 29 [some (.ref r0), some (.int l1), some (.int l2), some (.int l3)] [.ref q0] h P := by
  refine sw_iconst (v := 0) dX10_regraft_29 (by decide) ?_
  exact (k)
theorem b_X10_regraft_30 {r0 : Nat} {l1 : Int32} {l2 : Int32} {l3 : Int32} {q0 : Nat} {s1 : Int32} {v2 : Int32} {g2 : ab_H} {fs2 : List Value} (hr2 : (h)[q0]? = some (10, fs2)) (hm2 : MSE m_X10_fails d [.ref q0, .int s1, .int 0] h (some (.int v2)) g2) (kt : v2 = 0 → SW sc m_X10_regraft (d + 1) rc rs 39 [some (.ref r0), some (.int l1), some (.int l2), some (.int l3)] [] g2 P) (kf : ¬ (v2 = 0) → SW sc m_X10_regraft (d + 1) rc rs 37 [none, none, none, none] [] g2 P) : SW sc m_X10_regraft (d + 1) rc rs 30 [some (.ref r0), some (.int l1), some (.int l2), some (.int l3)] [.int s1, .ref q0] h P := by
  refine sw_iconst (v := 0) dX10_regraft_30 (by decide) ?_
  refine sw_cV dX10_regraft_31 lv_X10_286 hm2 hr2 rfl (by decide) rfl rfl rfl (Nat.le_of_ble_eq_true rfl) (fun _ _ => rfl) rfl ?_
  show SW sc m_X10_regraft _ _ _ 34 [some (.ref r0), some (.int l1), some (.int l2), some (.int l3)] [.int v2] g2 P
  exact sw_if_eq dX10_regraft_34 (by decide) (fun q => (kt q)) (fun q => (sw_fg [true, true, true, true] rfl (kf q)))
theorem b_X10_regraft_37  (hP : P (.inl (some (.int 0))) h) : SW sc m_X10_regraft d rc rs 37 [none, none, none, none] [] h P := by
  refine sw_iconst (v := 0) dX10_regraft_37 (by decide) ?_
  exact sw_ret (v := (some (.int 0))) dX10_regraft_38 rt_i hP
theorem b_X10_regraft_39 {r0 : Nat} {l1 : Int32} {l2 : Int32} {l3 : Int32} {fs2 : List Value} {a2 : Nat} {vs4 : List Value} {x4 : Int32} {v6 : Int32} {g6 : ab_H} (hc2 : (h)[r0]? = some (10, fs2)) (hv2 : fs2[1]? = some (.ref a2)) (hc4 : (h)[a2]? = some (100, vs4)) (ho4 : ¬ l1 < 0) (hi4 : vs4[l1.toNatClampNeg]? = some (.int x4)) (hm6 : MSE m_X10_has d [.int x4, .int l2] h (some (.int v6)) g6) (kt : ¬ v6 = 0 → SW sc m_X10_regraft (d + 1) rc rs 60 [some (.ref r0), some (.int l1), some (.int l2), some (.int l3)] [] g6 P) (kf : v6 = 0 → SW sc m_X10_regraft (d + 1) rc rs 52 [some (.ref r0), none, none, none] [] g6 P) : SW sc m_X10_regraft (d + 1) rc rs 39 [some (.ref r0), some (.int l1), some (.int l2), some (.int l3)] [] h P := by
  refine sw_aload_n dX10_regraft_39 rfl ?_
  refine sw_getf dX10_regraft_40 lf_X10_19 hc2 hv2 ?_
  refine sw_iload_n dX10_regraft_43 rfl ?_
  refine sw_iald dX10_regraft_44 hc4 ho4 hi4 ?_
  refine sw_iload_n dX10_regraft_45 rfl ?_
  refine sw_cS dX10_regraft_46 ls_X10_70 hm6 rfl rfl (Nat.le_of_ble_eq_true rfl) (fun _ _ => rfl) rfl ?_
  show SW sc m_X10_regraft _ _ _ 49 [some (.ref r0), some (.int l1), some (.int l2), some (.int l3)] [.int v6] g6 P
  exact sw_if_ne dX10_regraft_49 (by decide) (fun q => (kt q)) (fun q => (sw_fg [false, true, true, true] rfl (kf q)))
theorem b_X10_regraft_52 {r0 : Nat} {v4 : Int32} {g4 : ab_H} {fs4 : List Value} (hr4 : (h)[r0]? = some (10, fs4)) (hm4 : MSE m_X10_counts d [.ref r0, .int 7, .int 1] h (some (.int v4)) g4) (hP : P (.inl (some (.int v4))) g4) : SW sc m_X10_regraft (d + 1) rc rs 52 [some (.ref r0), none, none, none] [] h P := by
  refine sw_aload_n dX10_regraft_52 rfl ?_
  refine sw_bipush (v := 7) dX10_regraft_53 (by decide) ?_
  refine sw_iconst (v := 1) dX10_regraft_55 (by decide) ?_
  refine sw_cV dX10_regraft_56 lv_X10_347 hm4 hr4 rfl (by decide) rfl rfl rfl (Nat.le_of_ble_eq_true rfl) (fun _ _ => rfl) rfl ?_
  show SW sc m_X10_regraft _ _ _ 59 [some (.ref r0), none, none, none] [.int v4] g4 P
  exact sw_ret (v := (some (.int v4))) dX10_regraft_59 rt_i hP
theorem b_X10_regraft_60 {r0 : Nat} {l1 : Int32} {l2 : Int32} {l3 : Int32} {v4 : Int32} {g4 : ab_H} {fs4 : List Value} {v6 : Int32} {g6 : ab_H} (hr4 : (h)[r0]? = some (10, fs4)) (hm4 : MSE m_X10_reach d [.ref r0, .int l1, .int l2] h (some (.int v4)) g4) (hm6 : MSE m_X10_has d [.int v4, .int l3] g4 (some (.int v6)) g6) (kt : v6 = 0 → SW sc m_X10_regraft (d + 1) rc rs 81 [some (.ref r0), some (.int l1), some (.int l2), some (.int l3)] [] g6 P) (kf : ¬ (v6 = 0) → SW sc m_X10_regraft (d + 1) rc rs 73 [some (.ref r0), none, none, none] [] g6 P) : SW sc m_X10_regraft (d + 1) rc rs 60 [some (.ref r0), some (.int l1), some (.int l2), some (.int l3)] [] h P := by
  refine sw_aload_n dX10_regraft_60 rfl ?_
  refine sw_iload_n dX10_regraft_61 rfl ?_
  refine sw_iload_n dX10_regraft_62 rfl ?_
  refine sw_cV dX10_regraft_63 lv_X10_77 hm4 hr4 rfl (by decide) rfl rfl rfl (Nat.le_of_ble_eq_true rfl) (fun _ _ => rfl) rfl ?_
  show SW sc m_X10_regraft _ _ _ 66 [some (.ref r0), some (.int l1), some (.int l2), some (.int l3)] [.int v4] g4 P
  refine sw_iload_n dX10_regraft_66 rfl ?_
  refine sw_cS dX10_regraft_67 ls_X10_70 hm6 rfl rfl (Nat.le_of_ble_eq_true rfl) (fun _ _ => rfl) rfl ?_
  show SW sc m_X10_regraft _ _ _ 70 [some (.ref r0), some (.int l1), some (.int l2), some (.int l3)] [.int v6] g6 P
  exact sw_if_eq dX10_regraft_70 (by decide) (fun q => (kt q)) (fun q => (sw_fg [false, true, true, true] rfl (kf q)))
theorem b_X10_regraft_73 {r0 : Nat} {v4 : Int32} {g4 : ab_H} {fs4 : List Value} (hr4 : (h)[r0]? = some (10, fs4)) (hm4 : MSE m_X10_counts d [.ref r0, .int 7, .int 2] h (some (.int v4)) g4) (hP : P (.inl (some (.int v4))) g4) : SW sc m_X10_regraft (d + 1) rc rs 73 [some (.ref r0), none, none, none] [] h P := by
  refine sw_aload_n dX10_regraft_73 rfl ?_
  refine sw_bipush (v := 7) dX10_regraft_74 (by decide) ?_
  refine sw_iconst (v := 2) dX10_regraft_76 (by decide) ?_
  refine sw_cV dX10_regraft_77 lv_X10_347 hm4 hr4 rfl (by decide) rfl rfl rfl (Nat.le_of_ble_eq_true rfl) (fun _ _ => rfl) rfl ?_
  show SW sc m_X10_regraft _ _ _ 80 [some (.ref r0), none, none, none] [.int v4] g4 P
  exact sw_ret (v := (some (.int v4))) dX10_regraft_80 rt_i hP
theorem b_X10_regraft_81 {r0 : Nat} {l1 : Int32} {l2 : Int32} {l3 : Int32} {g2 : ab_H} {fs2 : List Value} {fs4 : List Value} {a4 : Nat} {g7 : ab_H} {fs9 : List Value} {a9 : Nat} {g12 : ab_H} {v16 : Int32} {g16 : ab_H} {fs16 : List Value} (hr2 : (h)[r0]? = some (10, fs2)) (hm2 : MSE m_X10_remembers d [.ref r0] h none g2) (hc4 : (g2)[r0]? = some (10, fs4)) (hv4 : fs4[1]? = some (.ref a4)) (hm7 : MSE m_X10_parts d [.ref a4, .int l1, .int l2] g2 none g7) (hc9 : (g7)[r0]? = some (10, fs9)) (hv9 : fs9[1]? = some (.ref a9)) (hm12 : MSE m_X10_joins d [.ref a9, .int l1, .int l3] g7 none g12) (hr16 : (g12)[r0]? = some (10, fs16)) (hm16 : MSE m_X10_counts d [.ref r0, .int 2, .int 0] g12 (some (.int v16)) g16) (hP : P (.inl (some (.int v16))) g16) : SW sc m_X10_regraft (d + 1) rc rs 81 [some (.ref r0), some (.int l1), some (.int l2), some (.int l3)] [] h P := by
  refine sw_aload_n dX10_regraft_81 rfl ?_
  refine sw_cV dX10_regraft_82 lv_X10_350 hm2 hr2 rfl (by decide) rfl rfl rfl (Nat.le_of_ble_eq_true rfl) (fun _ _ => rfl) rfl ?_
  show SW sc m_X10_regraft _ _ _ 85 [some (.ref r0), some (.int l1), some (.int l2), some (.int l3)] [] g2 P
  refine sw_aload_n dX10_regraft_85 rfl ?_
  refine sw_getf dX10_regraft_86 lf_X10_19 hc4 hv4 ?_
  refine sw_iload_n dX10_regraft_89 rfl ?_
  refine sw_iload_n dX10_regraft_90 rfl ?_
  refine sw_cS dX10_regraft_91 ls_X10_274 hm7 rfl rfl (Nat.le_of_ble_eq_true rfl) (fun _ _ => rfl) rfl ?_
  show SW sc m_X10_regraft _ _ _ 94 [some (.ref r0), some (.int l1), some (.int l2), some (.int l3)] [] g7 P
  refine sw_aload_n dX10_regraft_94 rfl ?_
  refine sw_getf dX10_regraft_95 lf_X10_19 hc9 hv9 ?_
  refine sw_iload_n dX10_regraft_98 rfl ?_
  refine sw_iload_n dX10_regraft_99 rfl ?_
  refine sw_cS dX10_regraft_100 ls_X10_205 hm12 rfl rfl (Nat.le_of_ble_eq_true rfl) (fun _ _ => rfl) rfl ?_
  show SW sc m_X10_regraft _ _ _ 103 [some (.ref r0), some (.int l1), some (.int l2), some (.int l3)] [] g12 P
  refine sw_aload_n dX10_regraft_103 rfl ?_
  refine sw_iconst (v := 2) dX10_regraft_104 (by decide) ?_
  refine sw_iconst (v := 0) dX10_regraft_105 (by decide) ?_
  refine sw_cV dX10_regraft_106 lv_X10_347 hm16 hr16 rfl (by decide) rfl rfl rfl (Nat.le_of_ble_eq_true rfl) (fun _ _ => rfl) rfl ?_
  show SW sc m_X10_regraft _ _ _ 109 [some (.ref r0), some (.int l1), some (.int l2), some (.int l3)] [.int v16] g16 P
  exact sw_ret (v := (some (.int v16))) dX10_regraft_109 rt_i hP
theorem b_X10_prune_0 {r0 : Nat} {l1 : Int32} {v5 : Int32} {g5 : ab_H} (hm5 : MSE m_X10_isIn d [.int l1, .int 1, .int 9] h (some (.int v5)) g5) (kt : ¬ v5 = 0 → SW sc m_X10_prune (d + 1) rc rs 15 [some (.ref r0), some (.int l1), none, none] [.ref r0] g5 P) (kf : v5 = 0 → SW sc m_X10_prune (d + 1) rc rs 11 [some (.ref r0), some (.int l1), none, none] [.ref r0] g5 P) : SW sc m_X10_prune (d + 1) rc rs 0 [some (.ref r0), some (.int l1), none, none] [] h P := by
  refine sw_aload_n dX10_prune_0 rfl ?_
  refine sw_iload_n dX10_prune_1 rfl ?_
  refine sw_iconst (v := 1) dX10_prune_2 (by decide) ?_
  refine sw_bipush (v := 9) dX10_prune_3 (by decide) ?_
  refine sw_cS dX10_prune_5 ls_X10_153 hm5 rfl rfl (Nat.le_of_ble_eq_true rfl) (fun _ _ => rfl) rfl ?_
  show SW sc m_X10_prune _ _ _ 8 [some (.ref r0), some (.int l1), none, none] [.int v5, .ref r0] g5 P
  exact sw_if_ne dX10_prune_8 (by decide) (fun q => (kt q)) (fun q => (kf q))
theorem b_X10_prune_11 {r0 : Nat} {l1 : Int32} {q0 : Nat} (k : SW sc m_X10_prune d rc rs 16 [some (.ref r0), some (.int l1), none, none] [.int 1, .ref q0] h P) : SW sc m_X10_prune d rc rs 11 [some (.ref r0), some (.int l1), none, none] [.ref q0] h P := by
  refine sw_iconst (v := 1) dX10_prune_11 (by decide) ?_
  exact sw_goto dX10_prune_12 (by decide) (k)
theorem b_X10_prune_15 {r0 : Nat} {l1 : Int32} {q0 : Nat} (k : SW sc m_X10_prune d rc rs 16 [some (.ref r0), some (.int l1), none, none] [.int 0, .ref q0] h P) : SW sc m_X10_prune d rc rs 15 [some (.ref r0), some (.int l1), none, none] [.ref q0] h P := by
  refine sw_iconst (v := 0) dX10_prune_15 (by decide) ?_
  exact (k)
theorem b_X10_prune_16 {r0 : Nat} {l1 : Int32} {q0 : Nat} {s1 : Int32} {v2 : Int32} {g2 : ab_H} {fs2 : List Value} (hr2 : (h)[q0]? = some (10, fs2)) (hm2 : MSE m_X10_fails d [.ref q0, .int s1, .int 0] h (some (.int v2)) g2) (kt : v2 = 0 → SW sc m_X10_prune (d + 1) rc rs 25 [some (.ref r0), some (.int l1), none, none] [] g2 P) (kf : ¬ (v2 = 0) → SW sc m_X10_prune (d + 1) rc rs 23 [none, none, none, none] [] g2 P) : SW sc m_X10_prune (d + 1) rc rs 16 [some (.ref r0), some (.int l1), none, none] [.int s1, .ref q0] h P := by
  refine sw_iconst (v := 0) dX10_prune_16 (by decide) ?_
  refine sw_cV dX10_prune_17 lv_X10_286 hm2 hr2 rfl (by decide) rfl rfl rfl (Nat.le_of_ble_eq_true rfl) (fun _ _ => rfl) rfl ?_
  show SW sc m_X10_prune _ _ _ 20 [some (.ref r0), some (.int l1), none, none] [.int v2] g2 P
  exact sw_if_eq dX10_prune_20 (by decide) (fun q => (kt q)) (fun q => (sw_fg [true, true, false, false] rfl (kf q)))
theorem b_X10_prune_23  (hP : P (.inl (some (.int 0))) h) : SW sc m_X10_prune d rc rs 23 [none, none, none, none] [] h P := by
  refine sw_iconst (v := 0) dX10_prune_23 (by decide) ?_
  exact sw_ret (v := (some (.int 0))) dX10_prune_24 rt_i hP
theorem b_X10_prune_25 {r0 : Nat} {l1 : Int32} {g2 : ab_H} {fs2 : List Value} {fs4 : List Value} {a4 : Nat} {vs7 : List Value} {x7 : Int32} {vs10 : List Value} {g12 : ab_H} {fs12 : List Value} (hr2 : (h)[r0]? = some (10, fs2)) (hm2 : MSE m_X10_remembers d [.ref r0] h none g2) (hc4 : (g2)[r0]? = some (10, fs4)) (hv4 : fs4[5]? = some (.ref a4)) (hc7 : (g2)[a4]? = some (100, vs7)) (ho7 : ¬ 3 < 0) (hi7 : vs7[(3 : Int32).toNatClampNeg]? = some (.int x7)) (hc10 : (g2)[a4]? = some (100, vs10)) (ho10 : ¬ 3 < 0) (hl10 : (3 : Int32).toNatClampNeg < vs10.length) (hr12 : ((g2).set a4 (100, vs10.set (3 : Int32).toNatClampNeg (.int (x7 + l1))))[r0]? = some (10, fs12)) (hm12 : MSE m_X10_layOther d [.ref r0] ((g2).set a4 (100, vs10.set (3 : Int32).toNatClampNeg (.int (x7 + l1)))) none g12) (k : SW sc m_X10_prune (d + 1) rc rs 47 [some (.ref r0), some (.int l1), some (.int 0), some (.int 0)] [] g12 P) : SW sc m_X10_prune (d + 1) rc rs 25 [some (.ref r0), some (.int l1), none, none] [] h P := by
  refine sw_aload_n dX10_prune_25 rfl ?_
  refine sw_cV dX10_prune_26 lv_X10_350 hm2 hr2 rfl (by decide) rfl rfl rfl (Nat.le_of_ble_eq_true rfl) (fun _ _ => rfl) rfl ?_
  show SW sc m_X10_prune _ _ _ 29 [some (.ref r0), some (.int l1), none, none] [] g2 P
  refine sw_aload_n dX10_prune_29 rfl ?_
  refine sw_getf dX10_prune_30 lf_X10_32 hc4 hv4 ?_
  refine sw_iconst (v := 3) dX10_prune_33 (by decide) ?_
  refine sw_dup2 dX10_prune_34 (fun _ _ => rfl) (fun _ _ => rfl) ?_
  refine sw_iald dX10_prune_35 hc7 ho7 hi7 ?_
  refine sw_iload_n dX10_prune_36 rfl ?_
  refine sw_iadd dX10_prune_37 ?_
  refine sw_iast dX10_prune_38 hc10 ho10 hl10 ?_
  refine sw_aload_n dX10_prune_39 rfl ?_
  refine sw_cV dX10_prune_40 lv_X10_277 hm12 hr12 rfl (by decide) rfl rfl rfl (Nat.le_of_ble_eq_true rfl) (fun _ _ => rfl) rfl ?_
  show SW sc m_X10_prune _ _ _ 43 [some (.ref r0), some (.int l1), none, none] [] g12 P
  refine sw_iconst (v := 0) dX10_prune_43 (by decide) ?_
  refine sw_istore_n dX10_prune_44 (by decide) rfl ?_
  show SW sc m_X10_prune _ _ _ 45 [some (.ref r0), some (.int l1), some (.int 0), none] [] g12 P
  refine sw_iconst (v := 0) dX10_prune_45 (by decide) ?_
  refine sw_istore_n dX10_prune_46 (by decide) rfl ?_
  show SW sc m_X10_prune _ _ _ 47 [some (.ref r0), some (.int l1), some (.int 0), some (.int 0)] [] g12 P
  exact (k)
theorem b_X10_prune_47 {r0 : Nat} {l1 : Int32} {l2 : Int32} {l3 : Int32} (kt : l1 ≤ l3 → SW sc m_X10_prune d rc rs 65 [some (.ref r0), none, some (.int l2), none] [] h P) (kf : ¬ (l1 ≤ l3) → SW sc m_X10_prune d rc rs 52 [some (.ref r0), some (.int l1), some (.int l2), some (.int l3)] [] h P) : SW sc m_X10_prune d rc rs 47 [some (.ref r0), some (.int l1), some (.int l2), some (.int l3)] [] h P := by
  refine sw_iload_n dX10_prune_47 rfl ?_
  refine sw_iload_n dX10_prune_48 rfl ?_
  exact sw_icmp_ge dX10_prune_49 (by decide) (fun q => (sw_fg [false, true, false, true] rfl (kt q))) (fun q => (kf q))
theorem b_X10_prune_52 {r0 : Nat} {l1 : Int32} {l2 : Int32} {l3 : Int32} {v3 : Int32} {g3 : ab_H} {fs3 : List Value} (hr3 : (h)[r0]? = some (10, fs3)) (hm3 : MSE m_X10_prunes d [.ref r0] h (some (.int v3)) g3) (k : SW sc m_X10_prune (d + 1) rc rs 47 [some (.ref r0), some (.int l1), some (.int (l2 + v3)), some (.int (l3 + 1))] [] g3 P) : SW sc m_X10_prune (d + 1) rc rs 52 [some (.ref r0), some (.int l1), some (.int l2), some (.int l3)] [] h P := by
  refine sw_iload_n dX10_prune_52 rfl ?_
  refine sw_aload_n dX10_prune_53 rfl ?_
  refine sw_cV dX10_prune_54 lv_X10_280 hm3 hr3 rfl (by decide) rfl rfl rfl (Nat.le_of_ble_eq_true rfl) (fun _ _ => rfl) rfl ?_
  show SW sc m_X10_prune _ _ _ 57 [some (.ref r0), some (.int l1), some (.int l2), some (.int l3)] [.int v3, .int l2] g3 P
  refine sw_iadd dX10_prune_57 ?_
  refine sw_istore_n dX10_prune_58 (by decide) rfl ?_
  show SW sc m_X10_prune _ _ _ 59 [some (.ref r0), some (.int l1), some (.int (l2 + v3)), some (.int l3)] [] g3 P
  refine sw_iinc (v := l3 + 1) dX10_prune_59 rfl rfl (by decide) rfl ?_
  show SW sc m_X10_prune _ _ _ 62 [some (.ref r0), some (.int l1), some (.int (l2 + v3)), some (.int (l3 + 1))] [] g3 P
  exact sw_goto dX10_prune_62 (by decide) (k)
theorem b_X10_prune_65 {r0 : Nat} {l2 : Int32} (k : SW sc m_X10_prune d rc rs 67 [some (.ref r0), none, some (.int l2), some (.int 0)] [] h P) : SW sc m_X10_prune d rc rs 65 [some (.ref r0), none, some (.int l2), none] [] h P := by
  refine sw_iconst (v := 0) dX10_prune_65 (by decide) ?_
  refine sw_istore_n dX10_prune_66 (by decide) rfl ?_
  show SW sc m_X10_prune _ _ _ 67 [some (.ref r0), none, some (.int l2), some (.int 0)] [] h P
  exact (k)
theorem b_X10_prune_67 {r0 : Nat} {l2 : Int32} {l3 : Int32} (kt : 20 ≤ l3 → SW sc m_X10_prune d rc rs 91 [none, none, some (.int l2), none] [] h P) (kf : ¬ (20 ≤ l3) → SW sc m_X10_prune d rc rs 73 [some (.ref r0), none, some (.int l2), some (.int l3)] [] h P) : SW sc m_X10_prune d rc rs 67 [some (.ref r0), none, some (.int l2), some (.int l3)] [] h P := by
  refine sw_iload_n dX10_prune_67 rfl ?_
  refine sw_bipush (v := 20) dX10_prune_68 (by decide) ?_
  exact sw_icmp_ge dX10_prune_70 (by decide) (fun q => (sw_fg [true, false, false, true] rfl (kt q))) (fun q => (kf q))
theorem b_X10_prune_73 {r0 : Nat} {l2 : Int32} {l3 : Int32} {fs2 : List Value} {a2 : Nat} {fs5 : List Value} {a5 : Nat} {vs7 : List Value} {x7 : Int32} {vs8 : List Value} (hc2 : (h)[r0]? = some (10, fs2)) (hv2 : fs2[1]? = some (.ref a2)) (hc5 : (h)[r0]? = some (10, fs5)) (hv5 : fs5[2]? = some (.ref a5)) (hc7 : (h)[a5]? = some (100, vs7)) (ho7 : ¬ l3 < 0) (hi7 : vs7[l3.toNatClampNeg]? = some (.int x7)) (hc8 : (h)[a2]? = some (100, vs8)) (ho8 : ¬ l3 < 0) (hl8 : l3.toNatClampNeg < vs8.length) (k : SW sc m_X10_prune d rc rs 67 [some (.ref r0), none, some (.int l2), some (.int (l3 + 1))] [] ((h).set a2 (100, vs8.set l3.toNatClampNeg (.int x7))) P) : SW sc m_X10_prune d rc rs 73 [some (.ref r0), none, some (.int l2), some (.int l3)] [] h P := by
  refine sw_aload_n dX10_prune_73 rfl ?_
  refine sw_getf dX10_prune_74 lf_X10_19 hc2 hv2 ?_
  refine sw_iload_n dX10_prune_77 rfl ?_
  refine sw_aload_n dX10_prune_78 rfl ?_
  refine sw_getf dX10_prune_79 lf_X10_23 hc5 hv5 ?_
  refine sw_iload_n dX10_prune_82 rfl ?_
  refine sw_iald dX10_prune_83 hc7 ho7 hi7 ?_
  refine sw_iast dX10_prune_84 hc8 ho8 hl8 ?_
  refine sw_iinc (v := l3 + 1) dX10_prune_85 rfl rfl (by decide) rfl ?_
  show SW sc m_X10_prune _ _ _ 88 [some (.ref r0), none, some (.int l2), some (.int (l3 + 1))] [] ((h).set a2 (100, vs8.set l3.toNatClampNeg (.int x7))) P
  exact sw_goto dX10_prune_88 (by decide) (k)
theorem b_X10_prune_91 {l2 : Int32} (hP : P (.inl (some (.int l2))) h) : SW sc m_X10_prune d rc rs 91 [none, none, some (.int l2), none] [] h P := by
  refine sw_iload_n dX10_prune_91 rfl ?_
  exact sw_ret (v := (some (.int l2))) dX10_prune_92 rt_i hP
theorem b_X10_comes_0 {r0 : Nat} (k : SW sc m_X10_comes d rc rs 4 [some (.ref r0), some (.int 0), some (.int 0)] [] h P) : SW sc m_X10_comes d rc rs 0 [some (.ref r0), none, none] [] h P := by
  refine sw_iconst (v := 0) dX10_comes_0 (by decide) ?_
  refine sw_istore_n dX10_comes_1 (by decide) rfl ?_
  show SW sc m_X10_comes _ _ _ 2 [some (.ref r0), some (.int 0), none] [] h P
  refine sw_iconst (v := 0) dX10_comes_2 (by decide) ?_
  refine sw_istore_n dX10_comes_3 (by decide) rfl ?_
  show SW sc m_X10_comes _ _ _ 4 [some (.ref r0), some (.int 0), some (.int 0)] [] h P
  exact (k)
theorem b_X10_comes_4 {r0 : Nat} {l1 : Int32} {l2 : Int32} {fs3 : List Value} {x3 : Int32} (hc3 : (h)[r0]? = some (10, fs3)) (hv3 : fs3[6]? = some (.int x3)) (kt : x3 ≤ l2 → SW sc m_X10_comes d rc rs 39 [some (.ref r0), some (.int l1), none] [] h P) (kf : ¬ (x3 ≤ l2) → SW sc m_X10_comes d rc rs 12 [some (.ref r0), some (.int l1), some (.int l2)] [] h P) : SW sc m_X10_comes d rc rs 4 [some (.ref r0), some (.int l1), some (.int l2)] [] h P := by
  refine sw_iload_n dX10_comes_4 rfl ?_
  refine sw_aload_n dX10_comes_5 rfl ?_
  refine sw_getf dX10_comes_6 lf_X10_35 hc3 hv3 ?_
  exact sw_icmp_ge dX10_comes_9 (by decide) (fun q => (sw_fg [false, false, true] rfl (kt q))) (fun q => (kf q))
theorem b_X10_comes_12 {r0 : Nat} {l1 : Int32} {l2 : Int32} {fs3 : List Value} {a3 : Nat} {vs5 : List Value} {x5 : Int32} {fs7 : List Value} {a7 : Nat} {vs9 : List Value} {x9 : Int32} {v13 : Int32} {g13 : ab_H} (hc3 : (h)[r0]? = some (10, fs3)) (hv3 : fs3[2]? = some (.ref a3)) (hc5 : (h)[a3]? = some (100, vs5)) (ho5 : ¬ l2 < 0) (hi5 : vs5[l2.toNatClampNeg]? = some (.int x5)) (hc7 : (h)[r0]? = some (10, fs7)) (hv7 : fs7[1]? = some (.ref a7)) (hc9 : (h)[a7]? = some (100, vs9)) (ho9 : ¬ l2 < 0) (hi9 : vs9[l2.toNatClampNeg]? = some (.int x9)) (hm13 : MSE m_X10_ones d [.int (x5 &&& (x9 ^^^ (-1)))] h (some (.int v13)) g13) (k : SW sc m_X10_comes (d + 1) rc rs 4 [some (.ref r0), some (.int (l1 + v13)), some (.int (l2 + 1))] [] g13 P) : SW sc m_X10_comes (d + 1) rc rs 12 [some (.ref r0), some (.int l1), some (.int l2)] [] h P := by
  refine sw_iload_n dX10_comes_12 rfl ?_
  refine sw_aload_n dX10_comes_13 rfl ?_
  refine sw_getf dX10_comes_14 lf_X10_23 hc3 hv3 ?_
  refine sw_iload_n dX10_comes_17 rfl ?_
  refine sw_iald dX10_comes_18 hc5 ho5 hi5 ?_
  refine sw_aload_n dX10_comes_19 rfl ?_
  refine sw_getf dX10_comes_20 lf_X10_19 hc7 hv7 ?_
  refine sw_iload_n dX10_comes_23 rfl ?_
  refine sw_iald dX10_comes_24 hc9 ho9 hi9 ?_
  refine sw_iconst (v := (-1)) dX10_comes_25 (by decide) ?_
  refine sw_ixor dX10_comes_26 ?_
  refine sw_iand dX10_comes_27 ?_
  refine sw_cS dX10_comes_28 ls_X10_111 hm13 rfl rfl (Nat.le_of_ble_eq_true rfl) (fun _ _ => rfl) rfl ?_
  show SW sc m_X10_comes _ _ _ 31 [some (.ref r0), some (.int l1), some (.int l2)] [.int v13, .int l1] g13 P
  refine sw_iadd dX10_comes_31 ?_
  refine sw_istore_n dX10_comes_32 (by decide) rfl ?_
  show SW sc m_X10_comes _ _ _ 33 [some (.ref r0), some (.int (l1 + v13)), some (.int l2)] [] g13 P
  refine sw_iinc (v := l2 + 1) dX10_comes_33 rfl rfl (by decide) rfl ?_
  show SW sc m_X10_comes _ _ _ 36 [some (.ref r0), some (.int (l1 + v13)), some (.int (l2 + 1))] [] g13 P
  exact sw_goto dX10_comes_36 (by decide) (k)
theorem b_X10_comes_39 {r0 : Nat} {l1 : Int32} (k : SW sc m_X10_comes d rc rs 41 [some (.ref r0), some (.int l1), some (.int 0)] [] h P) : SW sc m_X10_comes d rc rs 39 [some (.ref r0), some (.int l1), none] [] h P := by
  refine sw_iconst (v := 0) dX10_comes_39 (by decide) ?_
  refine sw_istore_n dX10_comes_40 (by decide) rfl ?_
  show SW sc m_X10_comes _ _ _ 41 [some (.ref r0), some (.int l1), some (.int 0)] [] h P
  exact (k)
theorem b_X10_comes_41 {r0 : Nat} {l1 : Int32} {l2 : Int32} {fs3 : List Value} {x3 : Int32} (hc3 : (h)[r0]? = some (10, fs3)) (hv3 : fs3[6]? = some (.int x3)) (kt : x3 ≤ l2 → SW sc m_X10_comes d rc rs 67 [none, some (.int l1), none] [] h P) (kf : ¬ (x3 ≤ l2) → SW sc m_X10_comes d rc rs 49 [some (.ref r0), some (.int l1), some (.int l2)] [] h P) : SW sc m_X10_comes d rc rs 41 [some (.ref r0), some (.int l1), some (.int l2)] [] h P := by
  refine sw_iload_n dX10_comes_41 rfl ?_
  refine sw_aload_n dX10_comes_42 rfl ?_
  refine sw_getf dX10_comes_43 lf_X10_35 hc3 hv3 ?_
  exact sw_icmp_ge dX10_comes_46 (by decide) (fun q => (sw_fg [true, false, true] rfl (kt q))) (fun q => (kf q))
theorem b_X10_comes_49 {r0 : Nat} {l1 : Int32} {l2 : Int32} {fs2 : List Value} {a2 : Nat} {fs5 : List Value} {a5 : Nat} {vs7 : List Value} {x7 : Int32} {vs8 : List Value} (hc2 : (h)[r0]? = some (10, fs2)) (hv2 : fs2[1]? = some (.ref a2)) (hc5 : (h)[r0]? = some (10, fs5)) (hv5 : fs5[2]? = some (.ref a5)) (hc7 : (h)[a5]? = some (100, vs7)) (ho7 : ¬ l2 < 0) (hi7 : vs7[l2.toNatClampNeg]? = some (.int x7)) (hc8 : (h)[a2]? = some (100, vs8)) (ho8 : ¬ l2 < 0) (hl8 : l2.toNatClampNeg < vs8.length) (k : SW sc m_X10_comes d rc rs 41 [some (.ref r0), some (.int l1), some (.int (l2 + 1))] [] ((h).set a2 (100, vs8.set l2.toNatClampNeg (.int x7))) P) : SW sc m_X10_comes d rc rs 49 [some (.ref r0), some (.int l1), some (.int l2)] [] h P := by
  refine sw_aload_n dX10_comes_49 rfl ?_
  refine sw_getf dX10_comes_50 lf_X10_19 hc2 hv2 ?_
  refine sw_iload_n dX10_comes_53 rfl ?_
  refine sw_aload_n dX10_comes_54 rfl ?_
  refine sw_getf dX10_comes_55 lf_X10_23 hc5 hv5 ?_
  refine sw_iload_n dX10_comes_58 rfl ?_
  refine sw_iald dX10_comes_59 hc7 ho7 hi7 ?_
  refine sw_iast dX10_comes_60 hc8 ho8 hl8 ?_
  refine sw_iinc (v := l2 + 1) dX10_comes_61 rfl rfl (by decide) rfl ?_
  show SW sc m_X10_comes _ _ _ 64 [some (.ref r0), some (.int l1), some (.int (l2 + 1))] [] ((h).set a2 (100, vs8.set l2.toNatClampNeg (.int x7))) P
  exact sw_goto dX10_comes_64 (by decide) (k)
theorem b_X10_comes_67 {l1 : Int32} (hz3 : ¬ (2 : Int32) = 0) (hP : P (.inl (some (.int (l1 / 2)))) h) : SW sc m_X10_comes d rc rs 67 [none, some (.int l1), none] [] h P := by
  refine sw_iload_n dX10_comes_67 rfl ?_
  refine sw_iconst (v := 2) dX10_comes_68 (by decide) ?_
  refine sw_idiv dX10_comes_69 hz3 ?_
  exact sw_ret (v := (some (.int (l1 / 2)))) dX10_comes_70 rt_i hP
theorem b_X10_exchanged_0 {l0 : Int32} {l1 : Int32} {l2 : Int32} (kt : ¬ l0 = l1 → SW sc m_X10_exchanged d rc rs 9 [some (.int l0), some (.int l1), some (.int l2)] [] h P) (kf : l0 = l1 → SW sc m_X10_exchanged d rc rs 5 [none, none, some (.int l2)] [] h P) : SW sc m_X10_exchanged d rc rs 0 [some (.int l0), some (.int l1), some (.int l2)] [] h P := by
  refine sw_iload_n dX10_exchanged_0 rfl ?_
  refine sw_iload_n dX10_exchanged_1 rfl ?_
  exact sw_icmp_ne dX10_exchanged_2 (by decide) (fun q => (kt q)) (fun q => (sw_fg [true, true, false] rfl (kf q)))
theorem b_X10_exchanged_5 {l2 : Int32} (k : SW sc m_X10_exchanged d rc rs 19 [none, none, none] [.int l2] h P) : SW sc m_X10_exchanged d rc rs 5 [none, none, some (.int l2)] [] h P := by
  refine sw_iload_n dX10_exchanged_5 rfl ?_
  exact sw_goto dX10_exchanged_6 (by decide) (sw_fg [false, false, true] rfl (k))
theorem b_X10_exchanged_9 {l0 : Int32} {l1 : Int32} {l2 : Int32} (kt : ¬ l0 = l2 → SW sc m_X10_exchanged d rc rs 18 [some (.int l0), none, none] [] h P) (kf : l0 = l2 → SW sc m_X10_exchanged d rc rs 14 [none, some (.int l1), none] [] h P) : SW sc m_X10_exchanged d rc rs 9 [some (.int l0), some (.int l1), some (.int l2)] [] h P := by
  refine sw_iload_n dX10_exchanged_9 rfl ?_
  refine sw_iload_n dX10_exchanged_10 rfl ?_
  exact sw_icmp_ne dX10_exchanged_11 (by decide) (fun q => (sw_fg [false, true, true] rfl (kt q))) (fun q => (sw_fg [true, false, true] rfl (kf q)))
theorem b_X10_exchanged_14 {l1 : Int32} (k : SW sc m_X10_exchanged d rc rs 19 [none, none, none] [.int l1] h P) : SW sc m_X10_exchanged d rc rs 14 [none, some (.int l1), none] [] h P := by
  refine sw_iload_n dX10_exchanged_14 rfl ?_
  exact sw_goto dX10_exchanged_15 (by decide) (sw_fg [false, true, false] rfl (k))
theorem b_X10_exchanged_18 {l0 : Int32} (k : SW sc m_X10_exchanged d rc rs 19 [none, none, none] [.int l0] h P) : SW sc m_X10_exchanged d rc rs 18 [some (.int l0), none, none] [] h P := by
  refine sw_iload_n dX10_exchanged_18 rfl ?_
  exact (sw_fg [true, false, false] rfl (k))
theorem b_X10_exchanged_19 {s0 : Int32} (hP : P (.inl (some (.int s0))) h) : SW sc m_X10_exchanged d rc rs 19 [none, none, none] [.int s0] h P := by
  exact sw_ret (v := (some (.int s0))) dX10_exchanged_19 rt_i hP
theorem b_X10_swap_0 {r0 : Nat} {l1 : Int32} {l2 : Int32} {v4 : Int32} {g4 : ab_H} {fs4 : List Value} (hr4 : (h)[r0]? = some (10, fs4)) (hm4 : MSE m_X10_isVertex d [.ref r0, .int l1] h (some (.int v4)) g4) (kt : v4 = 0 → SW sc m_X10_swap (d + 1) rc rs 17 [some (.ref r0), some (.int l1), some (.int l2), none, none] [.ref r0] g4 P) (kf : ¬ (v4 = 0) → SW sc m_X10_swap (d + 1) rc rs 9 [some (.ref r0), some (.int l1), some (.int l2), none, none] [.ref r0] g4 P) : SW sc m_X10_swap (d + 1) rc rs 0 [some (.ref r0), some (.int l1), some (.int l2), none, none] [] h P := by
  refine sw_aload_n dX10_swap_0 rfl ?_
  refine sw_aload_n dX10_swap_1 rfl ?_
  refine sw_iload_n dX10_swap_2 rfl ?_
  refine sw_cV dX10_swap_3 lv_X10_283 hm4 hr4 rfl (by decide) rfl rfl rfl (Nat.le_of_ble_eq_true rfl) (fun _ _ => rfl) rfl ?_
  show SW sc m_X10_swap _ _ _ 6 [some (.ref r0), some (.int l1), some (.int l2), none, none] [.int v4, .ref r0] g4 P
  exact sw_if_eq dX10_swap_6 (by decide) (fun q => (kt q)) (fun q => (kf q))
theorem b_X10_swap_9 {r0 : Nat} {l1 : Int32} {l2 : Int32} {q0 : Nat} {v3 : Int32} {g3 : ab_H} {fs3 : List Value} (hr3 : (h)[r0]? = some (10, fs3)) (hm3 : MSE m_X10_isVertex d [.ref r0, .int l2] h (some (.int v3)) g3) (kt : ¬ v3 = 0 → SW sc m_X10_swap (d + 1) rc rs 21 [some (.ref r0), some (.int l1), some (.int l2), none, none] [.ref q0] g3 P) (kf : v3 = 0 → SW sc m_X10_swap (d + 1) rc rs 17 [some (.ref r0), some (.int l1), some (.int l2), none, none] [.ref q0] g3 P) : SW sc m_X10_swap (d + 1) rc rs 9 [some (.ref r0), some (.int l1), some (.int l2), none, none] [.ref q0] h P := by
  refine sw_aload_n dX10_swap_9 rfl ?_
  refine sw_iload_n dX10_swap_10 rfl ?_
  refine sw_cV dX10_swap_11 lv_X10_283 hm3 hr3 rfl (by decide) rfl rfl rfl (Nat.le_of_ble_eq_true rfl) (fun _ _ => rfl) rfl ?_
  show SW sc m_X10_swap _ _ _ 14 [some (.ref r0), some (.int l1), some (.int l2), none, none] [.int v3, .ref q0] g3 P
  exact sw_if_ne dX10_swap_14 (by decide) (fun q => (kt q)) (fun q => (kf q))
theorem b_X10_swap_17 {r0 : Nat} {l1 : Int32} {l2 : Int32} {q0 : Nat} (k : SW sc m_X10_swap d rc rs 22 [some (.ref r0), some (.int l1), some (.int l2), none, none] [.int 1, .ref q0] h P) : SW sc m_X10_swap d rc rs 17 [some (.ref r0), some (.int l1), some (.int l2), none, none] [.ref q0] h P := by
  refine sw_iconst (v := 1) dX10_swap_17 (by decide) ?_
  exact sw_goto dX10_swap_18 (by decide) (k)
theorem b_X10_swap_21 {r0 : Nat} {l1 : Int32} {l2 : Int32} {q0 : Nat} (k : SW sc m_X10_swap d rc rs 22 [some (.ref r0), some (.int l1), some (.int l2), none, none] [.int 0, .ref q0] h P) : SW sc m_X10_swap d rc rs 21 [some (.ref r0), some (.int l1), some (.int l2), none, none] [.ref q0] h P := by
  refine sw_iconst (v := 0) dX10_swap_21 (by decide) ?_
  exact (k)
theorem b_X10_swap_22 {r0 : Nat} {l1 : Int32} {l2 : Int32} {q0 : Nat} {s1 : Int32} {v2 : Int32} {g2 : ab_H} {fs2 : List Value} (hr2 : (h)[q0]? = some (10, fs2)) (hm2 : MSE m_X10_fails d [.ref q0, .int s1, .int 0] h (some (.int v2)) g2) (kt : v2 = 0 → SW sc m_X10_swap (d + 1) rc rs 31 [some (.ref r0), some (.int l1), some (.int l2), none, none] [] g2 P) (kf : ¬ (v2 = 0) → SW sc m_X10_swap (d + 1) rc rs 29 [none, none, none, none, none] [] g2 P) : SW sc m_X10_swap (d + 1) rc rs 22 [some (.ref r0), some (.int l1), some (.int l2), none, none] [.int s1, .ref q0] h P := by
  refine sw_iconst (v := 0) dX10_swap_22 (by decide) ?_
  refine sw_cV dX10_swap_23 lv_X10_286 hm2 hr2 rfl (by decide) rfl rfl rfl (Nat.le_of_ble_eq_true rfl) (fun _ _ => rfl) rfl ?_
  show SW sc m_X10_swap _ _ _ 26 [some (.ref r0), some (.int l1), some (.int l2), none, none] [.int v2] g2 P
  exact sw_if_eq dX10_swap_26 (by decide) (fun q => (kt q)) (fun q => (sw_fg [true, true, true, false, false] rfl (kf q)))
theorem b_X10_swap_29  (hP : P (.inl (some (.int 0))) h) : SW sc m_X10_swap d rc rs 29 [none, none, none, none, none] [] h P := by
  refine sw_iconst (v := 0) dX10_swap_29 (by decide) ?_
  exact sw_ret (v := (some (.int 0))) dX10_swap_30 rt_i hP
theorem b_X10_swap_31 {r0 : Nat} {l1 : Int32} {l2 : Int32} {g2 : ab_H} {fs2 : List Value} (hr2 : (h)[r0]? = some (10, fs2)) (hm2 : MSE m_X10_remembers d [.ref r0] h none g2) (k : SW sc m_X10_swap (d + 1) rc rs 37 [some (.ref r0), some (.int l1), some (.int l2), some (.int 0), none] [] g2 P) : SW sc m_X10_swap (d + 1) rc rs 31 [some (.ref r0), some (.int l1), some (.int l2), none, none] [] h P := by
  refine sw_aload_n dX10_swap_31 rfl ?_
  refine sw_cV dX10_swap_32 lv_X10_350 hm2 hr2 rfl (by decide) rfl rfl rfl (Nat.le_of_ble_eq_true rfl) (fun _ _ => rfl) rfl ?_
  show SW sc m_X10_swap _ _ _ 35 [some (.ref r0), some (.int l1), some (.int l2), none, none] [] g2 P
  refine sw_iconst (v := 0) dX10_swap_35 (by decide) ?_
  refine sw_istore_n dX10_swap_36 (by decide) rfl ?_
  show SW sc m_X10_swap _ _ _ 37 [some (.ref r0), some (.int l1), some (.int l2), some (.int 0), none] [] g2 P
  exact (k)
theorem b_X10_swap_37 {r0 : Nat} {l1 : Int32} {l2 : Int32} {l3 : Int32} (kt : 10 ≤ l3 → SW sc m_X10_swap d rc rs 56 [some (.ref r0), some (.int l1), some (.int l2), none, none] [] h P) (kf : ¬ (10 ≤ l3) → SW sc m_X10_swap d rc rs 43 [some (.ref r0), some (.int l1), some (.int l2), some (.int l3), none] [] h P) : SW sc m_X10_swap d rc rs 37 [some (.ref r0), some (.int l1), some (.int l2), some (.int l3), none] [] h P := by
  refine sw_iload_n dX10_swap_37 rfl ?_
  refine sw_bipush (v := 10) dX10_swap_38 (by decide) ?_
  exact sw_icmp_ge dX10_swap_40 (by decide) (fun q => (sw_fg [false, false, false, true, false] rfl (kt q))) (fun q => (kf q))
theorem b_X10_swap_43 {r0 : Nat} {l1 : Int32} {l2 : Int32} {l3 : Int32} {fs2 : List Value} {a2 : Nat} {vs5 : List Value} (hc2 : (h)[r0]? = some (10, fs2)) (hv2 : fs2[2]? = some (.ref a2)) (hc5 : (h)[a2]? = some (100, vs5)) (ho5 : ¬ l3 < 0) (hl5 : l3.toNatClampNeg < vs5.length) (k : SW sc m_X10_swap d rc rs 37 [some (.ref r0), some (.int l1), some (.int l2), some (.int (l3 + 1)), none] [] ((h).set a2 (100, vs5.set l3.toNatClampNeg (.int 0))) P) : SW sc m_X10_swap d rc rs 43 [some (.ref r0), some (.int l1), some (.int l2), some (.int l3), none] [] h P := by
  refine sw_aload_n dX10_swap_43 rfl ?_
  refine sw_getf dX10_swap_44 lf_X10_23 hc2 hv2 ?_
  refine sw_iload_n dX10_swap_47 rfl ?_
  refine sw_iconst (v := 0) dX10_swap_48 (by decide) ?_
  refine sw_iast dX10_swap_49 hc5 ho5 hl5 ?_
  refine sw_iinc (v := l3 + 1) dX10_swap_50 rfl rfl (by decide) rfl ?_
  show SW sc m_X10_swap _ _ _ 53 [some (.ref r0), some (.int l1), some (.int l2), some (.int (l3 + 1)), none] [] ((h).set a2 (100, vs5.set l3.toNatClampNeg (.int 0))) P
  exact sw_goto dX10_swap_53 (by decide) (k)
theorem b_X10_swap_56 {r0 : Nat} {l1 : Int32} {l2 : Int32} (k : SW sc m_X10_swap d rc rs 58 [some (.ref r0), some (.int l1), some (.int l2), some (.int 0), none] [] h P) : SW sc m_X10_swap d rc rs 56 [some (.ref r0), some (.int l1), some (.int l2), none, none] [] h P := by
  refine sw_iconst (v := 0) dX10_swap_56 (by decide) ?_
  refine sw_istore_n dX10_swap_57 (by decide) rfl ?_
  show SW sc m_X10_swap _ _ _ 58 [some (.ref r0), some (.int l1), some (.int l2), some (.int 0), none] [] h P
  exact (k)
theorem b_X10_swap_58 {r0 : Nat} {l1 : Int32} {l2 : Int32} {l3 : Int32} {fs3 : List Value} {x3 : Int32} (hc3 : (h)[r0]? = some (10, fs3)) (hv3 : fs3[6]? = some (.int x3)) (kt : x3 ≤ l3 → SW sc m_X10_swap d rc rs 121 [some (.ref r0), none, none, none, none] [] h P) (kf : ¬ (x3 ≤ l3) → SW sc m_X10_swap d rc rs 66 [some (.ref r0), some (.int l1), some (.int l2), some (.int l3), none] [] h P) : SW sc m_X10_swap d rc rs 58 [some (.ref r0), some (.int l1), some (.int l2), some (.int l3), none] [] h P := by
  refine sw_iload_n dX10_swap_58 rfl ?_
  refine sw_aload_n dX10_swap_59 rfl ?_
  refine sw_getf dX10_swap_60 lf_X10_35 hc3 hv3 ?_
  exact sw_icmp_ge dX10_swap_63 (by decide) (fun q => (sw_fg [false, true, true, true, false] rfl (kt q))) (fun q => (kf q))
theorem b_X10_swap_66 {r0 : Nat} {l1 : Int32} {l2 : Int32} {l3 : Int32} (k : SW sc m_X10_swap d rc rs 69 [some (.ref r0), some (.int l1), some (.int l2), some (.int l3), some (.int 0)] [] h P) : SW sc m_X10_swap d rc rs 66 [some (.ref r0), some (.int l1), some (.int l2), some (.int l3), none] [] h P := by
  refine sw_iconst (v := 0) dX10_swap_66 (by decide) ?_
  refine sw_istore dX10_swap_67 (by decide) rfl ?_
  show SW sc m_X10_swap _ _ _ 69 [some (.ref r0), some (.int l1), some (.int l2), some (.int l3), some (.int 0)] [] h P
  exact (k)
theorem b_X10_swap_69 {r0 : Nat} {l1 : Int32} {l2 : Int32} {l3 : Int32} {l4 : Int32} (kt : l3 ≤ l4 → SW sc m_X10_swap d rc rs 115 [some (.ref r0), some (.int l1), some (.int l2), some (.int l3), none] [] h P) (kf : ¬ (l3 ≤ l4) → SW sc m_X10_swap d rc rs 75 [some (.ref r0), some (.int l1), some (.int l2), some (.int l3), some (.int l4)] [] h P) : SW sc m_X10_swap d rc rs 69 [some (.ref r0), some (.int l1), some (.int l2), some (.int l3), some (.int l4)] [] h P := by
  refine sw_iload dX10_swap_69 rfl ?_
  refine sw_iload_n dX10_swap_71 rfl ?_
  exact sw_icmp_ge dX10_swap_72 (by decide) (fun q => (sw_fg [false, false, false, false, true] rfl (kt q))) (fun q => (kf q))
theorem b_X10_swap_75 {r0 : Nat} {l1 : Int32} {l2 : Int32} {l3 : Int32} {l4 : Int32} {fs2 : List Value} {a2 : Nat} {vs4 : List Value} {x4 : Int32} {v6 : Int32} {g6 : ab_H} (hc2 : (h)[r0]? = some (10, fs2)) (hv2 : fs2[1]? = some (.ref a2)) (hc4 : (h)[a2]? = some (100, vs4)) (ho4 : ¬ l3 < 0) (hi4 : vs4[l3.toNatClampNeg]? = some (.int x4)) (hm6 : MSE m_X10_has d [.int x4, .int l4] h (some (.int v6)) g6) (kt : v6 = 0 → SW sc m_X10_swap (d + 1) rc rs 109 [some (.ref r0), some (.int l1), some (.int l2), some (.int l3), some (.int l4)] [] g6 P) (kf : ¬ (v6 = 0) → SW sc m_X10_swap (d + 1) rc rs 89 [some (.ref r0), some (.int l1), some (.int l2), some (.int l3), some (.int l4)] [] g6 P) : SW sc m_X10_swap (d + 1) rc rs 75 [some (.ref r0), some (.int l1), some (.int l2), some (.int l3), some (.int l4)] [] h P := by
  refine sw_aload_n dX10_swap_75 rfl ?_
  refine sw_getf dX10_swap_76 lf_X10_19 hc2 hv2 ?_
  refine sw_iload_n dX10_swap_79 rfl ?_
  refine sw_iald dX10_swap_80 hc4 ho4 hi4 ?_
  refine sw_iload dX10_swap_81 rfl ?_
  refine sw_cS dX10_swap_83 ls_X10_70 hm6 rfl rfl (Nat.le_of_ble_eq_true rfl) (fun _ _ => rfl) rfl ?_
  show SW sc m_X10_swap _ _ _ 86 [some (.ref r0), some (.int l1), some (.int l2), some (.int l3), some (.int l4)] [.int v6] g6 P
  exact sw_if_eq dX10_swap_86 (by decide) (fun q => (kt q)) (fun q => (kf q))
theorem b_X10_swap_89 {r0 : Nat} {l1 : Int32} {l2 : Int32} {l3 : Int32} {l4 : Int32} {fs2 : List Value} {a2 : Nat} {v6 : Int32} {g6 : ab_H} {v10 : Int32} {g10 : ab_H} {g11 : ab_H} (hc2 : (h)[r0]? = some (10, fs2)) (hv2 : fs2[2]? = some (.ref a2)) (hm6 : MSE m_X10_exchanged d [.int l3, .int l1, .int l2] h (some (.int v6)) g6) (hm10 : MSE m_X10_exchanged d [.int l4, .int l1, .int l2] g6 (some (.int v10)) g10) (hm11 : MSE m_X10_joins d [.ref a2, .int v6, .int v10] g10 none g11) (k : SW sc m_X10_swap (d + 1) rc rs 109 [some (.ref r0), some (.int l1), some (.int l2), some (.int l3), some (.int l4)] [] g11 P) : SW sc m_X10_swap (d + 1) rc rs 89 [some (.ref r0), some (.int l1), some (.int l2), some (.int l3), some (.int l4)] [] h P := by
  refine sw_aload_n dX10_swap_89 rfl ?_
  refine sw_getf dX10_swap_90 lf_X10_23 hc2 hv2 ?_
  refine sw_iload_n dX10_swap_93 rfl ?_
  refine sw_iload_n dX10_swap_94 rfl ?_
  refine sw_iload_n dX10_swap_95 rfl ?_
  refine sw_cS dX10_swap_96 ls_X10_353 hm6 rfl rfl (Nat.le_of_ble_eq_true rfl) (fun _ _ => rfl) rfl ?_
  show SW sc m_X10_swap _ _ _ 99 [some (.ref r0), some (.int l1), some (.int l2), some (.int l3), some (.int l4)] [.int v6, .ref a2] g6 P
  refine sw_iload dX10_swap_99 rfl ?_
  refine sw_iload_n dX10_swap_101 rfl ?_
  refine sw_iload_n dX10_swap_102 rfl ?_
  refine sw_cS dX10_swap_103 ls_X10_353 hm10 rfl rfl (Nat.le_of_ble_eq_true rfl) (fun _ _ => rfl) rfl ?_
  show SW sc m_X10_swap _ _ _ 106 [some (.ref r0), some (.int l1), some (.int l2), some (.int l3), some (.int l4)] [.int v10, .int v6, .ref a2] g10 P
  refine sw_cS dX10_swap_106 ls_X10_205 hm11 rfl rfl (Nat.le_of_ble_eq_true rfl) (fun _ _ => rfl) rfl ?_
  show SW sc m_X10_swap _ _ _ 109 [some (.ref r0), some (.int l1), some (.int l2), some (.int l3), some (.int l4)] [] g11 P
  exact (k)
theorem b_X10_swap_109 {r0 : Nat} {l1 : Int32} {l2 : Int32} {l3 : Int32} {l4 : Int32} (k : SW sc m_X10_swap d rc rs 69 [some (.ref r0), some (.int l1), some (.int l2), some (.int l3), some (.int (l4 + 1))] [] h P) : SW sc m_X10_swap d rc rs 109 [some (.ref r0), some (.int l1), some (.int l2), some (.int l3), some (.int l4)] [] h P := by
  refine sw_iinc (v := l4 + 1) dX10_swap_109 rfl rfl (by decide) rfl ?_
  show SW sc m_X10_swap _ _ _ 112 [some (.ref r0), some (.int l1), some (.int l2), some (.int l3), some (.int (l4 + 1))] [] h P
  exact sw_goto dX10_swap_112 (by decide) (k)
theorem b_X10_swap_115 {r0 : Nat} {l1 : Int32} {l2 : Int32} {l3 : Int32} (k : SW sc m_X10_swap d rc rs 58 [some (.ref r0), some (.int l1), some (.int l2), some (.int (l3 + 1)), none] [] h P) : SW sc m_X10_swap d rc rs 115 [some (.ref r0), some (.int l1), some (.int l2), some (.int l3), none] [] h P := by
  refine sw_iinc (v := l3 + 1) dX10_swap_115 rfl rfl (by decide) rfl ?_
  show SW sc m_X10_swap _ _ _ 118 [some (.ref r0), some (.int l1), some (.int l2), some (.int (l3 + 1)), none] [] h P
  exact sw_goto dX10_swap_118 (by decide) (k)
theorem b_X10_swap_121 {r0 : Nat} {v2 : Int32} {g2 : ab_H} {fs2 : List Value} (hr2 : (h)[r0]? = some (10, fs2)) (hm2 : MSE m_X10_comes d [.ref r0] h (some (.int v2)) g2) (hP : P (.inl (some (.int v2))) g2) : SW sc m_X10_swap (d + 1) rc rs 121 [some (.ref r0), none, none, none, none] [] h P := by
  refine sw_aload_n dX10_swap_121 rfl ?_
  refine sw_cV dX10_swap_122 lv_X10_356 hm2 hr2 rfl (by decide) rfl rfl rfl (Nat.le_of_ble_eq_true rfl) (fun _ _ => rfl) rfl ?_
  show SW sc m_X10_swap _ _ _ 125 [some (.ref r0), none, none, none, none] [.int v2] g2 P
  exact sw_ret (v := (some (.int v2))) dX10_swap_125 rt_i hP
theorem b_X10_setWeight_0 {r0 : Nat} {l1 : Int32} {l2 : Int32} {v3 : Int32} {g3 : ab_H} {fs3 : List Value} (hr3 : (h)[r0]? = some (10, fs3)) (hm3 : MSE m_X10_isVertex d [.ref r0, .int l1] h (some (.int v3)) g3) (kt : ¬ v3 = 0 → SW sc m_X10_setWeight (d + 1) rc rs 15 [some (.ref r0), some (.int l1), some (.int l2), some (.int v3), none] [.ref r0] g3 P) (kf : v3 = 0 → SW sc m_X10_setWeight (d + 1) rc rs 11 [some (.ref r0), some (.int l1), some (.int l2), some (.int v3), none] [.ref r0] g3 P) : SW sc m_X10_setWeight (d + 1) rc rs 0 [some (.ref r0), some (.int l1), some (.int l2), none, none] [] h P := by
  refine sw_aload_n dX10_setWeight_0 rfl ?_
  refine sw_iload_n dX10_setWeight_1 rfl ?_
  refine sw_cV dX10_setWeight_2 lv_X10_283 hm3 hr3 rfl (by decide) rfl rfl rfl (Nat.le_of_ble_eq_true rfl) (fun _ _ => rfl) rfl ?_
  show SW sc m_X10_setWeight _ _ _ 5 [some (.ref r0), some (.int l1), some (.int l2), none, none] [.int v3] g3 P
  refine sw_istore_n dX10_setWeight_5 (by decide) rfl ?_
  show SW sc m_X10_setWeight _ _ _ 6 [some (.ref r0), some (.int l1), some (.int l2), some (.int v3), none] [] g3 P
  refine sw_aload_n dX10_setWeight_6 rfl ?_
  refine sw_iload_n dX10_setWeight_7 rfl ?_
  exact sw_if_ne dX10_setWeight_8 (by decide) (fun q => (kt q)) (fun q => (kf q))
theorem b_X10_setWeight_11 {r0 : Nat} {l1 : Int32} {l2 : Int32} {l3 : Int32} {q0 : Nat} (k : SW sc m_X10_setWeight d rc rs 16 [some (.ref r0), some (.int l1), some (.int l2), some (.int l3), none] [.int 1, .ref q0] h P) : SW sc m_X10_setWeight d rc rs 11 [some (.ref r0), some (.int l1), some (.int l2), some (.int l3), none] [.ref q0] h P := by
  refine sw_iconst (v := 1) dX10_setWeight_11 (by decide) ?_
  exact sw_goto dX10_setWeight_12 (by decide) (k)
theorem b_X10_setWeight_15 {r0 : Nat} {l1 : Int32} {l2 : Int32} {l3 : Int32} {q0 : Nat} (k : SW sc m_X10_setWeight d rc rs 16 [some (.ref r0), some (.int l1), some (.int l2), some (.int l3), none] [.int 0, .ref q0] h P) : SW sc m_X10_setWeight d rc rs 15 [some (.ref r0), some (.int l1), some (.int l2), some (.int l3), none] [.ref q0] h P := by
  refine sw_iconst (v := 0) dX10_setWeight_15 (by decide) ?_
  exact (k)
theorem b_X10_setWeight_16 {r0 : Nat} {l1 : Int32} {l2 : Int32} {l3 : Int32} {q0 : Nat} {s1 : Int32} (kt : l3 = 0 → SW sc m_X10_setWeight d rc rs 34 [some (.ref r0), some (.int l1), some (.int l2), none, none] [.int s1, .ref q0] h P) (kf : ¬ (l3 = 0) → SW sc m_X10_setWeight d rc rs 20 [some (.ref r0), some (.int l1), some (.int l2), none, none] [.int s1, .ref q0] h P) : SW sc m_X10_setWeight d rc rs 16 [some (.ref r0), some (.int l1), some (.int l2), some (.int l3), none] [.int s1, .ref q0] h P := by
  refine sw_iload_n dX10_setWeight_16 rfl ?_
  exact sw_if_eq dX10_setWeight_17 (by decide) (fun q => (sw_fg [false, false, false, true, false] rfl (kt q))) (fun q => (sw_fg [false, false, false, true, false] rfl (kf q)))
theorem b_X10_setWeight_20 {r0 : Nat} {l1 : Int32} {l2 : Int32} {q0 : Nat} {s1 : Int32} {v4 : Int32} {g4 : ab_H} (hm4 : MSE m_X10_isIn d [.int l2, .int 0, .int 99] h (some (.int v4)) g4) (kt : ¬ v4 = 0 → SW sc m_X10_setWeight (d + 1) rc rs 34 [some (.ref r0), some (.int l1), some (.int l2), none, none] [.int s1, .ref q0] g4 P) (kf : v4 = 0 → SW sc m_X10_setWeight (d + 1) rc rs 30 [some (.ref r0), some (.int l1), some (.int l2), none, none] [.int s1, .ref q0] g4 P) : SW sc m_X10_setWeight (d + 1) rc rs 20 [some (.ref r0), some (.int l1), some (.int l2), none, none] [.int s1, .ref q0] h P := by
  refine sw_iload_n dX10_setWeight_20 rfl ?_
  refine sw_iconst (v := 0) dX10_setWeight_21 (by decide) ?_
  refine sw_bipush (v := 99) dX10_setWeight_22 (by decide) ?_
  refine sw_cS dX10_setWeight_24 ls_X10_153 hm4 rfl rfl (Nat.le_of_ble_eq_true rfl) (fun _ _ => rfl) rfl ?_
  show SW sc m_X10_setWeight _ _ _ 27 [some (.ref r0), some (.int l1), some (.int l2), none, none] [.int v4, .int s1, .ref q0] g4 P
  exact sw_if_ne dX10_setWeight_27 (by decide) (fun q => (kt q)) (fun q => (kf q))
theorem b_X10_setWeight_30 {r0 : Nat} {l1 : Int32} {l2 : Int32} {q0 : Nat} {s1 : Int32} (k : SW sc m_X10_setWeight d rc rs 35 [some (.ref r0), some (.int l1), some (.int l2), none, none] [.int 1, .int s1, .ref q0] h P) : SW sc m_X10_setWeight d rc rs 30 [some (.ref r0), some (.int l1), some (.int l2), none, none] [.int s1, .ref q0] h P := by
  refine sw_iconst (v := 1) dX10_setWeight_30 (by decide) ?_
  exact sw_goto dX10_setWeight_31 (by decide) (k)
theorem b_X10_setWeight_34 {r0 : Nat} {l1 : Int32} {l2 : Int32} {q0 : Nat} {s1 : Int32} (k : SW sc m_X10_setWeight d rc rs 35 [some (.ref r0), some (.int l1), some (.int l2), none, none] [.int 0, .int s1, .ref q0] h P) : SW sc m_X10_setWeight d rc rs 34 [some (.ref r0), some (.int l1), some (.int l2), none, none] [.int s1, .ref q0] h P := by
  refine sw_iconst (v := 0) dX10_setWeight_34 (by decide) ?_
  exact (k)
theorem b_X10_setWeight_35 {r0 : Nat} {l1 : Int32} {l2 : Int32} {q0 : Nat} {s1 : Int32} {s2 : Int32} {v1 : Int32} {g1 : ab_H} {fs1 : List Value} (hr1 : (h)[q0]? = some (10, fs1)) (hm1 : MSE m_X10_fails d [.ref q0, .int s1, .int s2] h (some (.int v1)) g1) (kt : v1 = 0 → SW sc m_X10_setWeight (d + 1) rc rs 43 [some (.ref r0), some (.int l1), some (.int l2), none, none] [] g1 P) (kf : ¬ (v1 = 0) → SW sc m_X10_setWeight (d + 1) rc rs 41 [none, none, none, none, none] [] g1 P) : SW sc m_X10_setWeight (d + 1) rc rs 35 [some (.ref r0), some (.int l1), some (.int l2), none, none] [.int s2, .int s1, .ref q0] h P := by
  refine sw_cV dX10_setWeight_35 lv_X10_286 hm1 hr1 rfl (by decide) rfl rfl rfl (Nat.le_of_ble_eq_true rfl) (fun _ _ => rfl) rfl ?_
  show SW sc m_X10_setWeight _ _ _ 38 [some (.ref r0), some (.int l1), some (.int l2), none, none] [.int v1] g1 P
  exact sw_if_eq dX10_setWeight_38 (by decide) (fun q => (kt q)) (fun q => (sw_fg [true, true, true, false, false] rfl (kf q)))
theorem b_X10_setWeight_41  (hP : P (.inl (some (.int 0))) h) : SW sc m_X10_setWeight d rc rs 41 [none, none, none, none, none] [] h P := by
  refine sw_iconst (v := 0) dX10_setWeight_41 (by decide) ?_
  exact sw_ret (v := (some (.int 0))) dX10_setWeight_42 rt_i hP
theorem b_X10_setWeight_43 {r0 : Nat} {l1 : Int32} {l2 : Int32} {g2 : ab_H} {fs2 : List Value} {fs4 : List Value} {a4 : Nat} {vs8 : List Value} {x8 : Int32} {fs11 : List Value} {a11 : Nat} {vs16 : List Value} (hr2 : (h)[r0]? = some (10, fs2)) (hm2 : MSE m_X10_remembers d [.ref r0] h none g2) (hc4 : (g2)[r0]? = some (10, fs4)) (hv4 : fs4[1]? = some (.ref a4)) (hc8 : (g2)[a4]? = some (100, vs8)) (ho8 : ¬ (10 + l1) < 0) (hi8 : vs8[(10 + l1).toNatClampNeg]? = some (.int x8)) (hc11 : (g2)[r0]? = some (10, fs11)) (hv11 : fs11[1]? = some (.ref a11)) (hc16 : (g2)[a11]? = some (100, vs16)) (ho16 : ¬ (10 + l1) < 0) (hl16 : (10 + l1).toNatClampNeg < vs16.length) (hP : P (.inl (some (.int x8))) ((g2).set a11 (100, vs16.set (10 + l1).toNatClampNeg (.int l2)))) : SW sc m_X10_setWeight (d + 1) rc rs 43 [some (.ref r0), some (.int l1), some (.int l2), none, none] [] h P := by
  refine sw_aload_n dX10_setWeight_43 rfl ?_
  refine sw_cV dX10_setWeight_44 lv_X10_350 hm2 hr2 rfl (by decide) rfl rfl rfl (Nat.le_of_ble_eq_true rfl) (fun _ _ => rfl) rfl ?_
  show SW sc m_X10_setWeight _ _ _ 47 [some (.ref r0), some (.int l1), some (.int l2), none, none] [] g2 P
  refine sw_aload_n dX10_setWeight_47 rfl ?_
  refine sw_getf dX10_setWeight_48 lf_X10_19 hc4 hv4 ?_
  refine sw_bipush (v := 10) dX10_setWeight_51 (by decide) ?_
  refine sw_iload_n dX10_setWeight_53 rfl ?_
  refine sw_iadd dX10_setWeight_54 ?_
  refine sw_iald dX10_setWeight_55 hc8 ho8 hi8 ?_
  refine sw_istore dX10_setWeight_56 (by decide) rfl ?_
  show SW sc m_X10_setWeight _ _ _ 58 [some (.ref r0), some (.int l1), some (.int l2), none, some (.int x8)] [] g2 P
  refine sw_aload_n dX10_setWeight_58 rfl ?_
  refine sw_getf dX10_setWeight_59 lf_X10_19 hc11 hv11 ?_
  refine sw_bipush (v := 10) dX10_setWeight_62 (by decide) ?_
  refine sw_iload_n dX10_setWeight_64 rfl ?_
  refine sw_iadd dX10_setWeight_65 ?_
  refine sw_iload_n dX10_setWeight_66 rfl ?_
  refine sw_iast dX10_setWeight_67 hc16 ho16 hl16 ?_
  refine sw_iload dX10_setWeight_68 rfl ?_
  exact sw_ret (v := (some (.int x8))) dX10_setWeight_70 rt_i hP
theorem b_X10_becomes_0 {r0 : Nat} {l1 : Int32} {g2 : ab_H} {fs2 : List Value} {fs4 : List Value} {a4 : Nat} {vs7 : List Value} {x7 : Int32} {vs10 : List Value} {fs14 : List Value} {x14 : Int32} {g15 : ab_H} {fs15 : List Value} {fs18 : List Value} {x18 : Int32} {g19 : ab_H} {fs19 : List Value} {v21 : Int32} {g21 : ab_H} {fs21 : List Value} (hr2 : (h)[r0]? = some (10, fs2)) (hm2 : MSE m_X10_remembers d [.ref r0] h none g2) (hc4 : (g2)[r0]? = some (10, fs4)) (hv4 : fs4[5]? = some (.ref a4)) (hc7 : (g2)[a4]? = some (100, vs7)) (ho7 : ¬ 4 < 0) (hi7 : vs7[(4 : Int32).toNatClampNeg]? = some (.int x7)) (hc10 : (g2)[a4]? = some (100, vs10)) (ho10 : ¬ 4 < 0) (hl10 : (4 : Int32).toNatClampNeg < vs10.length) (hc14 : ((g2).set a4 (100, vs10.set (4 : Int32).toNatClampNeg (.int (x7 + 1))))[r0]? = some (10, fs14)) (hv14 : fs14[6]? = some (.int x14)) (hr15 : ((g2).set a4 (100, vs10.set (4 : Int32).toNatClampNeg (.int (x7 + 1))))[r0]? = some (10, fs15)) (hm15 : MSE m_X10_decodes d [.ref r0, .int l1, .int x14] ((g2).set a4 (100, vs10.set (4 : Int32).toNatClampNeg (.int (x7 + 1)))) none g15) (hc18 : (g15)[r0]? = some (10, fs18)) (hv18 : fs18[6]? = some (.int x18)) (hr19 : (g15)[r0]? = some (10, fs19)) (hm19 : MSE m_X10_grows d [.ref r0, .int x18] g15 none g19) (hr21 : (g19)[r0]? = some (10, fs21)) (hm21 : MSE m_X10_comes d [.ref r0] g19 (some (.int v21)) g21) (hP : P (.inl (some (.int v21))) g21) : SW sc m_X10_becomes (d + 1) rc rs 0 [some (.ref r0), some (.int l1)] [] h P := by
  refine sw_aload_n dX10_becomes_0 rfl ?_
  refine sw_cV dX10_becomes_1 lv_X10_350 hm2 hr2 rfl (by decide) rfl rfl rfl (Nat.le_of_ble_eq_true rfl) (fun _ _ => rfl) rfl ?_
  show SW sc m_X10_becomes _ _ _ 4 [some (.ref r0), some (.int l1)] [] g2 P
  refine sw_aload_n dX10_becomes_4 rfl ?_
  refine sw_getf dX10_becomes_5 lf_X10_32 hc4 hv4 ?_
  refine sw_iconst (v := 4) dX10_becomes_8 (by decide) ?_
  refine sw_dup2 dX10_becomes_9 (fun _ _ => rfl) (fun _ _ => rfl) ?_
  refine sw_iald dX10_becomes_10 hc7 ho7 hi7 ?_
  refine sw_iconst (v := 1) dX10_becomes_11 (by decide) ?_
  refine sw_iadd dX10_becomes_12 ?_
  refine sw_iast dX10_becomes_13 hc10 ho10 hl10 ?_
  refine sw_aload_n dX10_becomes_14 rfl ?_
  refine sw_iload_n dX10_becomes_15 rfl ?_
  refine sw_aload_n dX10_becomes_16 rfl ?_
  refine sw_getf dX10_becomes_17 lf_X10_35 hc14 hv14 ?_
  refine sw_cV dX10_becomes_20 lv_X10_343 hm15 hr15 rfl (by decide) rfl rfl rfl (Nat.le_of_ble_eq_true rfl) (fun _ _ => rfl) rfl ?_
  show SW sc m_X10_becomes _ _ _ 23 [some (.ref r0), some (.int l1)] [] g15 P
  refine sw_aload_n dX10_becomes_23 rfl ?_
  refine sw_aload_n dX10_becomes_24 rfl ?_
  refine sw_getf dX10_becomes_25 lf_X10_35 hc18 hv18 ?_
  refine sw_cV dX10_becomes_28 lv_X10_225 hm19 hr19 rfl (by decide) rfl rfl rfl (Nat.le_of_ble_eq_true rfl) (fun _ _ => rfl) rfl ?_
  show SW sc m_X10_becomes _ _ _ 31 [some (.ref r0), some (.int l1)] [] g19 P
  refine sw_aload_n dX10_becomes_31 rfl ?_
  refine sw_cV dX10_becomes_32 lv_X10_356 hm21 hr21 rfl (by decide) rfl rfl rfl (Nat.le_of_ble_eq_true rfl) (fun _ _ => rfl) rfl ?_
  show SW sc m_X10_becomes _ _ _ 35 [some (.ref r0), some (.int l1)] [.int v21] g21 P
  exact sw_ret (v := (some (.int v21))) dX10_becomes_35 rt_i hP
theorem b_X10_fromRank_0 {r0 : Nat} {l1 : Int32} {fs5 : List Value} {x5 : Int32} {v6 : Int32} {g6 : ab_H} {v9 : Int32} {g9 : ab_H} (hc5 : (h)[r0]? = some (10, fs5)) (hv5 : fs5[6]? = some (.int x5)) (hm6 : MSE m_X10_ranks d [.int x5] h (some (.int v6)) g6) (hm9 : MSE m_X10_isIn d [.int l1, .int 0, .int (v6 - 1)] g6 (some (.int v9)) g9) (kt : ¬ v9 = 0 → SW sc m_X10_fromRank (d + 1) rc rs 22 [some (.ref r0), some (.int l1)] [.ref r0] g9 P) (kf : v9 = 0 → SW sc m_X10_fromRank (d + 1) rc rs 18 [some (.ref r0), some (.int l1)] [.ref r0] g9 P) : SW sc m_X10_fromRank (d + 1) rc rs 0 [some (.ref r0), some (.int l1)] [] h P := by
  refine sw_aload_n dX10_fromRank_0 rfl ?_
  refine sw_iload_n dX10_fromRank_1 rfl ?_
  refine sw_iconst (v := 0) dX10_fromRank_2 (by decide) ?_
  refine sw_aload_n dX10_fromRank_3 rfl ?_
  refine sw_getf dX10_fromRank_4 lf_X10_35 hc5 hv5 ?_
  refine sw_cS dX10_fromRank_7 ls_X10_340 hm6 rfl rfl (Nat.le_of_ble_eq_true rfl) (fun _ _ => rfl) rfl ?_
  show SW sc m_X10_fromRank _ _ _ 10 [some (.ref r0), some (.int l1)] [.int v6, .int 0, .int l1, .ref r0] g6 P
  refine sw_iconst (v := 1) dX10_fromRank_10 (by decide) ?_
  refine sw_isub dX10_fromRank_11 ?_
  refine sw_cS dX10_fromRank_12 ls_X10_153 hm9 rfl rfl (Nat.le_of_ble_eq_true rfl) (fun _ _ => rfl) rfl ?_
  show SW sc m_X10_fromRank _ _ _ 15 [some (.ref r0), some (.int l1)] [.int v9, .ref r0] g9 P
  exact sw_if_ne dX10_fromRank_15 (by decide) (fun q => (kt q)) (fun q => (kf q))
theorem b_X10_fromRank_18 {r0 : Nat} {l1 : Int32} {q0 : Nat} (k : SW sc m_X10_fromRank d rc rs 23 [some (.ref r0), some (.int l1)] [.int 1, .ref q0] h P) : SW sc m_X10_fromRank d rc rs 18 [some (.ref r0), some (.int l1)] [.ref q0] h P := by
  refine sw_iconst (v := 1) dX10_fromRank_18 (by decide) ?_
  exact sw_goto dX10_fromRank_19 (by decide) (k)
theorem b_X10_fromRank_22 {r0 : Nat} {l1 : Int32} {q0 : Nat} (k : SW sc m_X10_fromRank d rc rs 23 [some (.ref r0), some (.int l1)] [.int 0, .ref q0] h P) : SW sc m_X10_fromRank d rc rs 22 [some (.ref r0), some (.int l1)] [.ref q0] h P := by
  refine sw_iconst (v := 0) dX10_fromRank_22 (by decide) ?_
  exact (k)
theorem b_X10_fromRank_23 {r0 : Nat} {l1 : Int32} {q0 : Nat} {s1 : Int32} {v2 : Int32} {g2 : ab_H} {fs2 : List Value} (hr2 : (h)[q0]? = some (10, fs2)) (hm2 : MSE m_X10_fails d [.ref q0, .int s1, .int 0] h (some (.int v2)) g2) (kt : v2 = 0 → SW sc m_X10_fromRank (d + 1) rc rs 34 [some (.ref r0), some (.int l1)] [] g2 P) (kf : ¬ (v2 = 0) → SW sc m_X10_fromRank (d + 1) rc rs 30 [none, none] [] g2 P) : SW sc m_X10_fromRank (d + 1) rc rs 23 [some (.ref r0), some (.int l1)] [.int s1, .ref q0] h P := by
  refine sw_iconst (v := 0) dX10_fromRank_23 (by decide) ?_
  refine sw_cV dX10_fromRank_24 lv_X10_286 hm2 hr2 rfl (by decide) rfl rfl rfl (Nat.le_of_ble_eq_true rfl) (fun _ _ => rfl) rfl ?_
  show SW sc m_X10_fromRank _ _ _ 27 [some (.ref r0), some (.int l1)] [.int v2] g2 P
  exact sw_if_eq dX10_fromRank_27 (by decide) (fun q => (kt q)) (fun q => (sw_fg [true, true] rfl (kf q)))
theorem b_X10_fromRank_30  (k : SW sc m_X10_fromRank d rc rs 39 [none, none] [.int 0] h P) : SW sc m_X10_fromRank d rc rs 30 [none, none] [] h P := by
  refine sw_iconst (v := 0) dX10_fromRank_30 (by decide) ?_
  exact sw_goto dX10_fromRank_31 (by decide) (k)
theorem b_X10_fromRank_34 {r0 : Nat} {l1 : Int32} {v3 : Int32} {g3 : ab_H} {fs3 : List Value} (hr3 : (h)[r0]? = some (10, fs3)) (hm3 : MSE m_X10_becomes d [.ref r0, .int l1] h (some (.int v3)) g3) (k : SW sc m_X10_fromRank (d + 1) rc rs 39 [none, none] [.int v3] g3 P) : SW sc m_X10_fromRank (d + 1) rc rs 34 [some (.ref r0), some (.int l1)] [] h P := by
  refine sw_aload_n dX10_fromRank_34 rfl ?_
  refine sw_iload_n dX10_fromRank_35 rfl ?_
  refine sw_cV dX10_fromRank_36 lv_X10_359 hm3 hr3 rfl (by decide) rfl rfl rfl (Nat.le_of_ble_eq_true rfl) (fun _ _ => rfl) rfl ?_
  show SW sc m_X10_fromRank _ _ _ 39 [some (.ref r0), some (.int l1)] [.int v3] g3 P
  exact (sw_fg [true, true] rfl (k))
theorem b_X10_fromRank_39 {s0 : Int32} (hP : P (.inl (some (.int s0))) h) : SW sc m_X10_fromRank d rc rs 39 [none, none] [.int s0] h P := by
  exact sw_ret (v := (some (.int s0))) dX10_fromRank_39 rt_i hP
theorem b_X10_nextTree_0 {r0 : Nat} {fs3 : List Value} {v5 : Int32} {g5 : ab_H} {fs5 : List Value} (hc3 : (h)[r0]? = some (10, fs3)) (hk3 : 0 < fs3.length) (hr5 : ((h).set r0 (10, fs3.set 0 (.int 0)))[r0]? = some (10, fs5)) (hm5 : MSE m_X10_isTree d [.ref r0] ((h).set r0 (10, fs3.set 0 (.int 0))) (some (.int v5)) g5) (kt : v5 = 0 → SW sc m_X10_nextTree (d + 1) rc rs 21 [some (.ref r0), none, none] [] g5 P) (kf : ¬ (v5 = 0) → SW sc m_X10_nextTree (d + 1) rc rs 12 [some (.ref r0), none, none] [] g5 P) : SW sc m_X10_nextTree (d + 1) rc rs 0 [some (.ref r0), none, none] [] h P := by
  refine sw_aload_n dX10_nextTree_0 rfl ?_
  refine sw_iconst (v := 0) dX10_nextTree_1 (by decide) ?_
  refine sw_putf dX10_nextTree_2 lp_X10_1 hc3 hk3 (fun _ _ => ⟨rfl, rfl⟩) ?_
  refine sw_aload_n dX10_nextTree_5 rfl ?_
  refine sw_cV dX10_nextTree_6 lv_X10_304 hm5 hr5 rfl (by decide) rfl rfl rfl (Nat.le_of_ble_eq_true rfl) (fun _ _ => rfl) rfl ?_
  show SW sc m_X10_nextTree _ _ _ 9 [some (.ref r0), none, none] [.int v5] g5 P
  exact sw_if_eq dX10_nextTree_9 (by decide) (fun q => (kt q)) (fun q => (kf q))
theorem b_X10_nextTree_12 {r0 : Nat} {v2 : Int32} {g2 : ab_H} {fs2 : List Value} (hr2 : (h)[r0]? = some (10, fs2)) (hm2 : MSE m_X10_rankNow d [.ref r0] h (some (.int v2)) g2) (k : SW sc m_X10_nextTree (d + 1) rc rs 28 [some (.ref r0), none, none] [.int (v2 + 1)] g2 P) : SW sc m_X10_nextTree (d + 1) rc rs 12 [some (.ref r0), none, none] [] h P := by
  refine sw_aload_n dX10_nextTree_12 rfl ?_
  refine sw_cV dX10_nextTree_13 lv_X10_310 hm2 hr2 rfl (by decide) rfl rfl rfl (Nat.le_of_ble_eq_true rfl) (fun _ _ => rfl) rfl ?_
  show SW sc m_X10_nextTree _ _ _ 16 [some (.ref r0), none, none] [.int v2] g2 P
  refine sw_iconst (v := 1) dX10_nextTree_16 (by decide) ?_
  refine sw_iadd dX10_nextTree_17 ?_
  exact sw_goto dX10_nextTree_18 (by decide) (k)
theorem b_X10_nextTree_21 {r0 : Nat} {fs2 : List Value} {x2 : Int32} {v3 : Int32} {g3 : ab_H} (hc2 : (h)[r0]? = some (10, fs2)) (hv2 : fs2[6]? = some (.int x2)) (hm3 : MSE m_X10_ranks d [.int x2] h (some (.int v3)) g3) (k : SW sc m_X10_nextTree (d + 1) rc rs 28 [some (.ref r0), none, none] [.int v3] g3 P) : SW sc m_X10_nextTree (d + 1) rc rs 21 [some (.ref r0), none, none] [] h P := by
  refine sw_aload_n dX10_nextTree_21 rfl ?_
  refine sw_getf dX10_nextTree_22 lf_X10_35 hc2 hv2 ?_
  refine sw_cS dX10_nextTree_25 ls_X10_340 hm3 rfl rfl (Nat.le_of_ble_eq_true rfl) (fun _ _ => rfl) rfl ?_
  show SW sc m_X10_nextTree _ _ _ 28 [some (.ref r0), none, none] [.int v3] g3 P
  exact (k)
theorem b_X10_nextTree_28 {r0 : Nat} {s0 : Int32} {fs4 : List Value} {x4 : Int32} {v5 : Int32} {g5 : ab_H} (hc4 : (h)[r0]? = some (10, fs4)) (hv4 : fs4[6]? = some (.int x4)) (hm5 : MSE m_X10_ranks d [.int x4] h (some (.int v5)) g5) (kt : ¬ s0 = v5 → SW sc m_X10_nextTree (d + 1) rc rs 48 [some (.ref r0), some (.int s0), none] [] g5 P) (kf : s0 = v5 → SW sc m_X10_nextTree (d + 1) rc rs 40 [some (.ref r0), none, none] [] g5 P) : SW sc m_X10_nextTree (d + 1) rc rs 28 [some (.ref r0), none, none] [.int s0] h P := by
  refine sw_istore_n dX10_nextTree_28 (by decide) rfl ?_
  show SW sc m_X10_nextTree _ _ _ 29 [some (.ref r0), some (.int s0), none] [] h P
  refine sw_iload_n dX10_nextTree_29 rfl ?_
  refine sw_aload_n dX10_nextTree_30 rfl ?_
  refine sw_getf dX10_nextTree_31 lf_X10_35 hc4 hv4 ?_
  refine sw_cS dX10_nextTree_34 ls_X10_340 hm5 rfl rfl (Nat.le_of_ble_eq_true rfl) (fun _ _ => rfl) rfl ?_
  show SW sc m_X10_nextTree _ _ _ 37 [some (.ref r0), some (.int s0), none] [.int v5, .int s0] g5 P
  exact sw_icmp_ne dX10_nextTree_37 (by decide) (fun q => (kt q)) (fun q => (sw_fg [false, true, false] rfl (kf q)))
theorem b_X10_nextTree_40 {r0 : Nat} {v4 : Int32} {g4 : ab_H} {fs4 : List Value} (hr4 : (h)[r0]? = some (10, fs4)) (hm4 : MSE m_X10_counts d [.ref r0, .int 8, .int (-1)] h (some (.int v4)) g4) (hP : P (.inl (some (.int v4))) g4) : SW sc m_X10_nextTree (d + 1) rc rs 40 [some (.ref r0), none, none] [] h P := by
  refine sw_aload_n dX10_nextTree_40 rfl ?_
  refine sw_bipush (v := 8) dX10_nextTree_41 (by decide) ?_
  refine sw_iconst (v := (-1)) dX10_nextTree_43 (by decide) ?_
  refine sw_cV dX10_nextTree_44 lv_X10_347 hm4 hr4 rfl (by decide) rfl rfl rfl (Nat.le_of_ble_eq_true rfl) (fun _ _ => rfl) rfl ?_
  show SW sc m_X10_nextTree _ _ _ 47 [some (.ref r0), none, none] [.int v4] g4 P
  exact sw_ret (v := (some (.int v4))) dX10_nextTree_47 rt_i hP
theorem b_X10_nextTree_48 {r0 : Nat} {l1 : Int32} {v3 : Int32} {g3 : ab_H} {fs3 : List Value} (hr3 : (h)[r0]? = some (10, fs3)) (hm3 : MSE m_X10_becomes d [.ref r0, .int l1] h (some (.int v3)) g3) (hP : P (.inl (some (.int l1))) g3) : SW sc m_X10_nextTree (d + 1) rc rs 48 [some (.ref r0), some (.int l1), none] [] h P := by
  refine sw_aload_n dX10_nextTree_48 rfl ?_
  refine sw_iload_n dX10_nextTree_49 rfl ?_
  refine sw_cV dX10_nextTree_50 lv_X10_359 hm3 hr3 rfl (by decide) rfl rfl rfl (Nat.le_of_ble_eq_true rfl) (fun _ _ => rfl) rfl ?_
  show SW sc m_X10_nextTree _ _ _ 53 [some (.ref r0), some (.int l1), none] [.int v3] g3 P
  refine sw_istore_n dX10_nextTree_53 (by decide) rfl ?_
  show SW sc m_X10_nextTree _ _ _ 54 [some (.ref r0), some (.int l1), some (.int v3)] [] g3 P
  refine sw_iload_n dX10_nextTree_54 rfl ?_
  exact sw_ret (v := (some (.int l1))) dX10_nextTree_55 rt_i hP
theorem b_X10_keep_0 {r0 : Nat} {l1 : Int32} {v5 : Int32} {g5 : ab_H} (hm5 : MSE m_X10_isIn d [.int l1, .int 0, .int 2] h (some (.int v5)) g5) (kt : ¬ v5 = 0 → SW sc m_X10_keep (d + 1) rc rs 14 [some (.ref r0), some (.int l1), none, none] [.ref r0] g5 P) (kf : v5 = 0 → SW sc m_X10_keep (d + 1) rc rs 10 [some (.ref r0), some (.int l1), none, none] [.ref r0] g5 P) : SW sc m_X10_keep (d + 1) rc rs 0 [some (.ref r0), some (.int l1), none, none] [] h P := by
  refine sw_aload_n dX10_keep_0 rfl ?_
  refine sw_iload_n dX10_keep_1 rfl ?_
  refine sw_iconst (v := 0) dX10_keep_2 (by decide) ?_
  refine sw_iconst (v := 2) dX10_keep_3 (by decide) ?_
  refine sw_cS dX10_keep_4 ls_X10_153 hm5 rfl rfl (Nat.le_of_ble_eq_true rfl) (fun _ _ => rfl) rfl ?_
  show SW sc m_X10_keep _ _ _ 7 [some (.ref r0), some (.int l1), none, none] [.int v5, .ref r0] g5 P
  exact sw_if_ne dX10_keep_7 (by decide) (fun q => (kt q)) (fun q => (kf q))
theorem b_X10_keep_10 {r0 : Nat} {l1 : Int32} {q0 : Nat} (k : SW sc m_X10_keep d rc rs 15 [some (.ref r0), some (.int l1), none, none] [.int 1, .ref q0] h P) : SW sc m_X10_keep d rc rs 10 [some (.ref r0), some (.int l1), none, none] [.ref q0] h P := by
  refine sw_iconst (v := 1) dX10_keep_10 (by decide) ?_
  exact sw_goto dX10_keep_11 (by decide) (k)
theorem b_X10_keep_14 {r0 : Nat} {l1 : Int32} {q0 : Nat} (k : SW sc m_X10_keep d rc rs 15 [some (.ref r0), some (.int l1), none, none] [.int 0, .ref q0] h P) : SW sc m_X10_keep d rc rs 14 [some (.ref r0), some (.int l1), none, none] [.ref q0] h P := by
  refine sw_iconst (v := 0) dX10_keep_14 (by decide) ?_
  exact (k)
theorem b_X10_keep_15 {r0 : Nat} {l1 : Int32} {q0 : Nat} {s1 : Int32} {v2 : Int32} {g2 : ab_H} {fs2 : List Value} (hr2 : (h)[q0]? = some (10, fs2)) (hm2 : MSE m_X10_fails d [.ref q0, .int s1, .int 0] h (some (.int v2)) g2) (kt : v2 = 0 → SW sc m_X10_keep (d + 1) rc rs 24 [some (.ref r0), some (.int l1), none, none] [] g2 P) (kf : ¬ (v2 = 0) → SW sc m_X10_keep (d + 1) rc rs 22 [none, none, none, none] [] g2 P) : SW sc m_X10_keep (d + 1) rc rs 15 [some (.ref r0), some (.int l1), none, none] [.int s1, .ref q0] h P := by
  refine sw_iconst (v := 0) dX10_keep_15 (by decide) ?_
  refine sw_cV dX10_keep_16 lv_X10_286 hm2 hr2 rfl (by decide) rfl rfl rfl (Nat.le_of_ble_eq_true rfl) (fun _ _ => rfl) rfl ?_
  show SW sc m_X10_keep _ _ _ 19 [some (.ref r0), some (.int l1), none, none] [.int v2] g2 P
  exact sw_if_eq dX10_keep_19 (by decide) (fun q => (kt q)) (fun q => (sw_fg [true, true, false, false] rfl (kf q)))
theorem b_X10_keep_22  (hP : P (.inl (some (.int 0))) h) : SW sc m_X10_keep d rc rs 22 [none, none, none, none] [] h P := by
  refine sw_iconst (v := 0) dX10_keep_22 (by decide) ?_
  exact sw_ret (v := (some (.int 0))) dX10_keep_23 (rt_n (by decide)) hP
theorem b_X10_keep_24 {r0 : Nat} {l1 : Int32} {fs2 : List Value} {x2 : Int32} {v4 : Int32} {g4 : ab_H} {fs8 : List Value} {x8 : Int32} {fs13 : List Value} (hc2 : (h)[r0]? = some (10, fs2)) (hv2 : fs2[8]? = some (.int x2)) (hm4 : MSE m_X10_has d [.int x2, .int l1] h (some (.int v4)) g4) (hc8 : (g4)[r0]? = some (10, fs8)) (hv8 : fs8[8]? = some (.int x8)) (hc13 : (g4)[r0]? = some (10, fs13)) (hk13 : 8 < fs13.length) (k : SW sc m_X10_keep (d + 1) rc rs 47 [some (.ref r0), some (.int l1), some (.int v4), some (.int 0)] [] ((g4).set r0 (10, fs13.set 8 (.int (x8 ||| (1 <<< (l1 &&& 31)))))) P) : SW sc m_X10_keep (d + 1) rc rs 24 [some (.ref r0), some (.int l1), none, none] [] h P := by
  refine sw_aload_n dX10_keep_24 rfl ?_
  refine sw_getf dX10_keep_25 lf_X10_262 hc2 hv2 ?_
  refine sw_iload_n dX10_keep_28 rfl ?_
  refine sw_cS dX10_keep_29 ls_X10_70 hm4 rfl rfl (Nat.le_of_ble_eq_true rfl) (fun _ _ => rfl) rfl ?_
  show SW sc m_X10_keep _ _ _ 32 [some (.ref r0), some (.int l1), none, none] [.int v4] g4 P
  refine sw_istore_n dX10_keep_32 (by decide) rfl ?_
  show SW sc m_X10_keep _ _ _ 33 [some (.ref r0), some (.int l1), some (.int v4), none] [] g4 P
  refine sw_aload_n dX10_keep_33 rfl ?_
  refine sw_dup dX10_keep_34 (fun _ _ => rfl) ?_
  refine sw_getf dX10_keep_35 lf_X10_262 hc8 hv8 ?_
  refine sw_iconst (v := 1) dX10_keep_38 (by decide) ?_
  refine sw_iload_n dX10_keep_39 rfl ?_
  refine sw_ishl dX10_keep_40 ?_
  refine sw_ior dX10_keep_41 ?_
  refine sw_putf dX10_keep_42 lp_X10_262 hc13 hk13 (fun _ _ => ⟨rfl, rfl⟩) ?_
  refine sw_iconst (v := 0) dX10_keep_45 (by decide) ?_
  refine sw_istore_n dX10_keep_46 (by decide) rfl ?_
  show SW sc m_X10_keep _ _ _ 47 [some (.ref r0), some (.int l1), some (.int v4), some (.int 0)] [] ((g4).set r0 (10, fs13.set 8 (.int (x8 ||| (1 <<< (l1 &&& 31)))))) P
  exact (k)
theorem b_X10_keep_47 {r0 : Nat} {l1 : Int32} {l2 : Int32} {l3 : Int32} (kt : 20 ≤ l3 → SW sc m_X10_keep d rc rs 76 [none, none, some (.int l2), none] [] h P) (kf : ¬ (20 ≤ l3) → SW sc m_X10_keep d rc rs 53 [some (.ref r0), some (.int l1), some (.int l2), some (.int l3)] [] h P) : SW sc m_X10_keep d rc rs 47 [some (.ref r0), some (.int l1), some (.int l2), some (.int l3)] [] h P := by
  refine sw_iload_n dX10_keep_47 rfl ?_
  refine sw_bipush (v := 20) dX10_keep_48 (by decide) ?_
  exact sw_icmp_ge dX10_keep_50 (by decide) (fun q => (sw_fg [true, true, false, true] rfl (kt q))) (fun q => (kf q))
theorem b_X10_keep_53 {r0 : Nat} {l1 : Int32} {l2 : Int32} {l3 : Int32} {fs2 : List Value} {a2 : Nat} {fs9 : List Value} {a9 : Nat} {vs11 : List Value} {x11 : Int32} {vs12 : List Value} (hc2 : (h)[r0]? = some (10, fs2)) (hv2 : fs2[4]? = some (.ref a2)) (hc9 : (h)[r0]? = some (10, fs9)) (hv9 : fs9[1]? = some (.ref a9)) (hc11 : (h)[a9]? = some (100, vs11)) (ho11 : ¬ l3 < 0) (hi11 : vs11[l3.toNatClampNeg]? = some (.int x11)) (hc12 : (h)[a2]? = some (100, vs12)) (ho12 : ¬ ((20 * l1) + l3) < 0) (hl12 : ((20 * l1) + l3).toNatClampNeg < vs12.length) (k : SW sc m_X10_keep d rc rs 47 [some (.ref r0), some (.int l1), some (.int l2), some (.int (l3 + 1))] [] ((h).set a2 (100, vs12.set ((20 * l1) + l3).toNatClampNeg (.int x11))) P) : SW sc m_X10_keep d rc rs 53 [some (.ref r0), some (.int l1), some (.int l2), some (.int l3)] [] h P := by
  refine sw_aload_n dX10_keep_53 rfl ?_
  refine sw_getf dX10_keep_54 lf_X10_29 hc2 hv2 ?_
  refine sw_bipush (v := 20) dX10_keep_57 (by decide) ?_
  refine sw_iload_n dX10_keep_59 rfl ?_
  refine sw_imul dX10_keep_60 ?_
  refine sw_iload_n dX10_keep_61 rfl ?_
  refine sw_iadd dX10_keep_62 ?_
  refine sw_aload_n dX10_keep_63 rfl ?_
  refine sw_getf dX10_keep_64 lf_X10_19 hc9 hv9 ?_
  refine sw_iload_n dX10_keep_67 rfl ?_
  refine sw_iald dX10_keep_68 hc11 ho11 hi11 ?_
  refine sw_iast dX10_keep_69 hc12 ho12 hl12 ?_
  refine sw_iinc (v := l3 + 1) dX10_keep_70 rfl rfl (by decide) rfl ?_
  show SW sc m_X10_keep _ _ _ 73 [some (.ref r0), some (.int l1), some (.int l2), some (.int (l3 + 1))] [] ((h).set a2 (100, vs12.set ((20 * l1) + l3).toNatClampNeg (.int x11))) P
  exact sw_goto dX10_keep_73 (by decide) (k)
theorem b_X10_keep_76 {l2 : Int32} (hz2 : narrow .boolean (.int l2) = .int l2) (hP : P (.inl (some (.int l2))) h) : SW sc m_X10_keep d rc rs 76 [none, none, some (.int l2), none] [] h P := by
  refine sw_iload_n dX10_keep_76 rfl ?_
  exact sw_ret (v := (some (.int l2))) dX10_keep_77 (rt_n hz2) hP
theorem b_X10_restore_0 {r0 : Nat} {l1 : Int32} {v5 : Int32} {g5 : ab_H} (hm5 : MSE m_X10_isIn d [.int l1, .int 0, .int 2] h (some (.int v5)) g5) (kt : ¬ v5 = 0 → SW sc m_X10_restore (d + 1) rc rs 14 [some (.ref r0), some (.int l1), none] [.ref r0] g5 P) (kf : v5 = 0 → SW sc m_X10_restore (d + 1) rc rs 10 [some (.ref r0), some (.int l1), none] [.ref r0] g5 P) : SW sc m_X10_restore (d + 1) rc rs 0 [some (.ref r0), some (.int l1), none] [] h P := by
  refine sw_aload_n dX10_restore_0 rfl ?_
  refine sw_iload_n dX10_restore_1 rfl ?_
  refine sw_iconst (v := 0) dX10_restore_2 (by decide) ?_
  refine sw_iconst (v := 2) dX10_restore_3 (by decide) ?_
  refine sw_cS dX10_restore_4 ls_X10_153 hm5 rfl rfl (Nat.le_of_ble_eq_true rfl) (fun _ _ => rfl) rfl ?_
  show SW sc m_X10_restore _ _ _ 7 [some (.ref r0), some (.int l1), none] [.int v5, .ref r0] g5 P
  exact sw_if_ne dX10_restore_7 (by decide) (fun q => (kt q)) (fun q => (kf q))
theorem b_X10_restore_10 {r0 : Nat} {l1 : Int32} {q0 : Nat} (k : SW sc m_X10_restore d rc rs 15 [some (.ref r0), some (.int l1), none] [.int 1, .ref q0] h P) : SW sc m_X10_restore d rc rs 10 [some (.ref r0), some (.int l1), none] [.ref q0] h P := by
  refine sw_iconst (v := 1) dX10_restore_10 (by decide) ?_
  exact sw_goto dX10_restore_11 (by decide) (k)
theorem b_X10_restore_14 {r0 : Nat} {l1 : Int32} {q0 : Nat} (k : SW sc m_X10_restore d rc rs 15 [some (.ref r0), some (.int l1), none] [.int 0, .ref q0] h P) : SW sc m_X10_restore d rc rs 14 [some (.ref r0), some (.int l1), none] [.ref q0] h P := by
  refine sw_iconst (v := 0) dX10_restore_14 (by decide) ?_
  exact (k)
theorem b_X10_restore_15 {r0 : Nat} {l1 : Int32} {q0 : Nat} {s1 : Int32} {v2 : Int32} {g2 : ab_H} {fs2 : List Value} (hr2 : (h)[q0]? = some (10, fs2)) (hm2 : MSE m_X10_fails d [.ref q0, .int s1, .int 0] h (some (.int v2)) g2) (kt : v2 = 0 → SW sc m_X10_restore (d + 1) rc rs 24 [some (.ref r0), some (.int l1), none] [] g2 P) (kf : ¬ (v2 = 0) → SW sc m_X10_restore (d + 1) rc rs 22 [none, none, none] [] g2 P) : SW sc m_X10_restore (d + 1) rc rs 15 [some (.ref r0), some (.int l1), none] [.int s1, .ref q0] h P := by
  refine sw_iconst (v := 0) dX10_restore_15 (by decide) ?_
  refine sw_cV dX10_restore_16 lv_X10_286 hm2 hr2 rfl (by decide) rfl rfl rfl (Nat.le_of_ble_eq_true rfl) (fun _ _ => rfl) rfl ?_
  show SW sc m_X10_restore _ _ _ 19 [some (.ref r0), some (.int l1), none] [.int v2] g2 P
  exact sw_if_eq dX10_restore_19 (by decide) (fun q => (kt q)) (fun q => (sw_fg [true, true, false] rfl (kf q)))
theorem b_X10_restore_22  (hP : P (.inl (some (.int 0))) h) : SW sc m_X10_restore d rc rs 22 [none, none, none] [] h P := by
  refine sw_iconst (v := 0) dX10_restore_22 (by decide) ?_
  exact sw_ret (v := (some (.int 0))) dX10_restore_23 (rt_n (by decide)) hP
theorem b_X10_restore_24 {r0 : Nat} {l1 : Int32} {fs2 : List Value} {x2 : Int32} {v4 : Int32} {g4 : ab_H} (hc2 : (h)[r0]? = some (10, fs2)) (hv2 : fs2[8]? = some (.int x2)) (hm4 : MSE m_X10_has d [.int x2, .int l1] h (some (.int v4)) g4) (kt : ¬ v4 = 0 → SW sc m_X10_restore (d + 1) rc rs 48 [some (.ref r0), some (.int l1), none] [] g4 P) (kf : v4 = 0 → SW sc m_X10_restore (d + 1) rc rs 35 [some (.ref r0), none, none] [] g4 P) : SW sc m_X10_restore (d + 1) rc rs 24 [some (.ref r0), some (.int l1), none] [] h P := by
  refine sw_aload_n dX10_restore_24 rfl ?_
  refine sw_getf dX10_restore_25 lf_X10_262 hc2 hv2 ?_
  refine sw_iload_n dX10_restore_28 rfl ?_
  refine sw_cS dX10_restore_29 ls_X10_70 hm4 rfl rfl (Nat.le_of_ble_eq_true rfl) (fun _ _ => rfl) rfl ?_
  show SW sc m_X10_restore _ _ _ 32 [some (.ref r0), some (.int l1), none] [.int v4] g4 P
  exact sw_if_ne dX10_restore_32 (by decide) (fun q => (kt q)) (fun q => (sw_fg [false, true, false] rfl (kf q)))
theorem b_X10_restore_35 {r0 : Nat} {fs2 : List Value} {a2 : Nat} {vs5 : List Value} {x5 : Int32} {vs8 : List Value} (hc2 : (h)[r0]? = some (10, fs2)) (hv2 : fs2[5]? = some (.ref a2)) (hc5 : (h)[a2]? = some (100, vs5)) (ho5 : ¬ 9 < 0) (hi5 : vs5[(9 : Int32).toNatClampNeg]? = some (.int x5)) (hc8 : (h)[a2]? = some (100, vs8)) (ho8 : ¬ 9 < 0) (hl8 : (9 : Int32).toNatClampNeg < vs8.length) (hP : P (.inl (some (.int 0))) ((h).set a2 (100, vs8.set (9 : Int32).toNatClampNeg (.int (x5 + 1))))) : SW sc m_X10_restore d rc rs 35 [some (.ref r0), none, none] [] h P := by
  refine sw_aload_n dX10_restore_35 rfl ?_
  refine sw_getf dX10_restore_36 lf_X10_32 hc2 hv2 ?_
  refine sw_bipush (v := 9) dX10_restore_39 (by decide) ?_
  refine sw_dup2 dX10_restore_41 (fun _ _ => rfl) (fun _ _ => rfl) ?_
  refine sw_iald dX10_restore_42 hc5 ho5 hi5 ?_
  refine sw_iconst (v := 1) dX10_restore_43 (by decide) ?_
  refine sw_iadd dX10_restore_44 ?_
  refine sw_iast dX10_restore_45 hc8 ho8 hl8 ?_
  refine sw_iconst (v := 0) dX10_restore_46 (by decide) ?_
  exact sw_ret (v := (some (.int 0))) dX10_restore_47 (rt_n (by decide)) hP
theorem b_X10_restore_48 {r0 : Nat} {l1 : Int32} {g2 : ab_H} {fs2 : List Value} (hr2 : (h)[r0]? = some (10, fs2)) (hm2 : MSE m_X10_remembers d [.ref r0] h none g2) (k : SW sc m_X10_restore (d + 1) rc rs 54 [some (.ref r0), some (.int l1), some (.int 0)] [] g2 P) : SW sc m_X10_restore (d + 1) rc rs 48 [some (.ref r0), some (.int l1), none] [] h P := by
  refine sw_aload_n dX10_restore_48 rfl ?_
  refine sw_cV dX10_restore_49 lv_X10_350 hm2 hr2 rfl (by decide) rfl rfl rfl (Nat.le_of_ble_eq_true rfl) (fun _ _ => rfl) rfl ?_
  show SW sc m_X10_restore _ _ _ 52 [some (.ref r0), some (.int l1), none] [] g2 P
  refine sw_iconst (v := 0) dX10_restore_52 (by decide) ?_
  refine sw_istore_n dX10_restore_53 (by decide) rfl ?_
  show SW sc m_X10_restore _ _ _ 54 [some (.ref r0), some (.int l1), some (.int 0)] [] g2 P
  exact (k)
theorem b_X10_restore_54 {r0 : Nat} {l1 : Int32} {l2 : Int32} (kt : 20 ≤ l2 → SW sc m_X10_restore d rc rs 83 [none, none, none] [] h P) (kf : ¬ (20 ≤ l2) → SW sc m_X10_restore d rc rs 60 [some (.ref r0), some (.int l1), some (.int l2)] [] h P) : SW sc m_X10_restore d rc rs 54 [some (.ref r0), some (.int l1), some (.int l2)] [] h P := by
  refine sw_iload_n dX10_restore_54 rfl ?_
  refine sw_bipush (v := 20) dX10_restore_55 (by decide) ?_
  exact sw_icmp_ge dX10_restore_57 (by decide) (fun q => (sw_fg [true, true, true] rfl (kt q))) (fun q => (kf q))
theorem b_X10_restore_60 {r0 : Nat} {l1 : Int32} {l2 : Int32} {fs2 : List Value} {a2 : Nat} {fs5 : List Value} {a5 : Nat} {vs11 : List Value} {x11 : Int32} {vs12 : List Value} (hc2 : (h)[r0]? = some (10, fs2)) (hv2 : fs2[1]? = some (.ref a2)) (hc5 : (h)[r0]? = some (10, fs5)) (hv5 : fs5[4]? = some (.ref a5)) (hc11 : (h)[a5]? = some (100, vs11)) (ho11 : ¬ ((20 * l1) + l2) < 0) (hi11 : vs11[((20 * l1) + l2).toNatClampNeg]? = some (.int x11)) (hc12 : (h)[a2]? = some (100, vs12)) (ho12 : ¬ l2 < 0) (hl12 : l2.toNatClampNeg < vs12.length) (k : SW sc m_X10_restore d rc rs 54 [some (.ref r0), some (.int l1), some (.int (l2 + 1))] [] ((h).set a2 (100, vs12.set l2.toNatClampNeg (.int x11))) P) : SW sc m_X10_restore d rc rs 60 [some (.ref r0), some (.int l1), some (.int l2)] [] h P := by
  refine sw_aload_n dX10_restore_60 rfl ?_
  refine sw_getf dX10_restore_61 lf_X10_19 hc2 hv2 ?_
  refine sw_iload_n dX10_restore_64 rfl ?_
  refine sw_aload_n dX10_restore_65 rfl ?_
  refine sw_getf dX10_restore_66 lf_X10_29 hc5 hv5 ?_
  refine sw_bipush (v := 20) dX10_restore_69 (by decide) ?_
  refine sw_iload_n dX10_restore_71 rfl ?_
  refine sw_imul dX10_restore_72 ?_
  refine sw_iload_n dX10_restore_73 rfl ?_
  refine sw_iadd dX10_restore_74 ?_
  refine sw_iald dX10_restore_75 hc11 ho11 hi11 ?_
  refine sw_iast dX10_restore_76 hc12 ho12 hl12 ?_
  refine sw_iinc (v := l2 + 1) dX10_restore_77 rfl rfl (by decide) rfl ?_
  show SW sc m_X10_restore _ _ _ 80 [some (.ref r0), some (.int l1), some (.int (l2 + 1))] [] ((h).set a2 (100, vs12.set l2.toNatClampNeg (.int x11))) P
  exact sw_goto dX10_restore_80 (by decide) (k)
theorem b_X10_restore_83  (hP : P (.inl (some (.int 1))) h) : SW sc m_X10_restore d rc rs 83 [none, none, none] [] h P := by
  refine sw_iconst (v := 1) dX10_restore_83 (by decide) ?_
  exact sw_ret (v := (some (.int 1))) dX10_restore_84 (rt_n (by decide)) hP
theorem b_X10_account_0 {r0 : Nat} {l1 : Int32} {v5 : Int32} {g5 : ab_H} (hm5 : MSE m_X10_isIn d [.int l1, .int 0, .int 9] h (some (.int v5)) g5) (kt : ¬ v5 = 0 → SW sc m_X10_account (d + 1) rc rs 15 [some (.ref r0), some (.int l1)] [.ref r0] g5 P) (kf : v5 = 0 → SW sc m_X10_account (d + 1) rc rs 11 [some (.ref r0), some (.int l1)] [.ref r0] g5 P) : SW sc m_X10_account (d + 1) rc rs 0 [some (.ref r0), some (.int l1)] [] h P := by
  refine sw_aload_n dX10_account_0 rfl ?_
  refine sw_iload_n dX10_account_1 rfl ?_
  refine sw_iconst (v := 0) dX10_account_2 (by decide) ?_
  refine sw_bipush (v := 9) dX10_account_3 (by decide) ?_
  refine sw_cS dX10_account_5 ls_X10_153 hm5 rfl rfl (Nat.le_of_ble_eq_true rfl) (fun _ _ => rfl) rfl ?_
  show SW sc m_X10_account _ _ _ 8 [some (.ref r0), some (.int l1)] [.int v5, .ref r0] g5 P
  exact sw_if_ne dX10_account_8 (by decide) (fun q => (kt q)) (fun q => (kf q))
theorem b_X10_account_11 {r0 : Nat} {l1 : Int32} {q0 : Nat} (k : SW sc m_X10_account d rc rs 16 [some (.ref r0), some (.int l1)] [.int 1, .ref q0] h P) : SW sc m_X10_account d rc rs 11 [some (.ref r0), some (.int l1)] [.ref q0] h P := by
  refine sw_iconst (v := 1) dX10_account_11 (by decide) ?_
  exact sw_goto dX10_account_12 (by decide) (k)
theorem b_X10_account_15 {r0 : Nat} {l1 : Int32} {q0 : Nat} (k : SW sc m_X10_account d rc rs 16 [some (.ref r0), some (.int l1)] [.int 0, .ref q0] h P) : SW sc m_X10_account d rc rs 15 [some (.ref r0), some (.int l1)] [.ref q0] h P := by
  refine sw_iconst (v := 0) dX10_account_15 (by decide) ?_
  exact (k)
theorem b_X10_account_16 {r0 : Nat} {l1 : Int32} {q0 : Nat} {s1 : Int32} {v2 : Int32} {g2 : ab_H} {fs2 : List Value} (hr2 : (h)[q0]? = some (10, fs2)) (hm2 : MSE m_X10_fails d [.ref q0, .int s1, .int 0] h (some (.int v2)) g2) (kt : v2 = 0 → SW sc m_X10_account (d + 1) rc rs 27 [some (.ref r0), some (.int l1)] [] g2 P) (kf : ¬ (v2 = 0) → SW sc m_X10_account (d + 1) rc rs 23 [none, none] [] g2 P) : SW sc m_X10_account (d + 1) rc rs 16 [some (.ref r0), some (.int l1)] [.int s1, .ref q0] h P := by
  refine sw_iconst (v := 0) dX10_account_16 (by decide) ?_
  refine sw_cV dX10_account_17 lv_X10_286 hm2 hr2 rfl (by decide) rfl rfl rfl (Nat.le_of_ble_eq_true rfl) (fun _ _ => rfl) rfl ?_
  show SW sc m_X10_account _ _ _ 20 [some (.ref r0), some (.int l1)] [.int v2] g2 P
  exact sw_if_eq dX10_account_20 (by decide) (fun q => (kt q)) (fun q => (sw_fg [true, true] rfl (kf q)))
theorem b_X10_account_23  (k : SW sc m_X10_account d rc rs 33 [none, none] [.int 0] h P) : SW sc m_X10_account d rc rs 23 [none, none] [] h P := by
  refine sw_iconst (v := 0) dX10_account_23 (by decide) ?_
  exact sw_goto dX10_account_24 (by decide) (k)
theorem b_X10_account_27 {r0 : Nat} {l1 : Int32} {fs2 : List Value} {a2 : Nat} {vs4 : List Value} {x4 : Int32} (hc2 : (h)[r0]? = some (10, fs2)) (hv2 : fs2[5]? = some (.ref a2)) (hc4 : (h)[a2]? = some (100, vs4)) (ho4 : ¬ l1 < 0) (hi4 : vs4[l1.toNatClampNeg]? = some (.int x4)) (k : SW sc m_X10_account d rc rs 33 [none, none] [.int x4] h P) : SW sc m_X10_account d rc rs 27 [some (.ref r0), some (.int l1)] [] h P := by
  refine sw_aload_n dX10_account_27 rfl ?_
  refine sw_getf dX10_account_28 lf_X10_32 hc2 hv2 ?_
  refine sw_iload_n dX10_account_31 rfl ?_
  refine sw_iald dX10_account_32 hc4 ho4 hi4 ?_
  exact (sw_fg [true, true] rfl (k))
theorem b_X10_account_33 {s0 : Int32} (hP : P (.inl (some (.int s0))) h) : SW sc m_X10_account d rc rs 33 [none, none] [.int s0] h P := by
  exact sw_ret (v := (some (.int s0))) dX10_account_33 rt_i hP
end
