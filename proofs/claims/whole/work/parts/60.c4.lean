section
variable {sc : Option (List Int32)} {d rc rs : Nat} {h : ab_H} {P : ab_O → ab_H → Prop}
theorem b_X10_isAhead_31  (hP : P (.inl (some (.int 0))) h) : SW sc m_X10_isAhead d rc rs 31 [none, none, none, none, none] [] h P := by
  refine sw_iconst (v := 0) dX10_isAhead_31 (by decide) ?_
  exact sw_ret (v := (some (.int 0))) dX10_isAhead_32 (rt_n (by decide)) hP
theorem b_X10_hasEdges_0 {r0 : Nat} (k : SW sc m_X10_hasEdges d rc rs 2 [some (.ref r0), some (.int 0)] [] h P) : SW sc m_X10_hasEdges d rc rs 0 [some (.ref r0), none] [] h P := by
  refine sw_iconst (v := 0) dX10_hasEdges_0 (by decide) ?_
  refine sw_istore_n dX10_hasEdges_1 (by decide) rfl ?_
  show SW sc m_X10_hasEdges _ _ _ 2 [some (.ref r0), some (.int 0)] [] h P
  exact (k)
theorem b_X10_hasEdges_2 {r0 : Nat} {l1 : Int32} {fs3 : List Value} {x3 : Int32} (hc3 : (h)[r0]? = some (10, fs3)) (hv3 : fs3[10]? = some (.int x3)) (kt : x3 ≤ l1 → SW sc m_X10_hasEdges d rc rs 27 [none, none] [] h P) (kf : ¬ (x3 ≤ l1) → SW sc m_X10_hasEdges d rc rs 10 [some (.ref r0), some (.int l1)] [] h P) : SW sc m_X10_hasEdges d rc rs 2 [some (.ref r0), some (.int l1)] [] h P := by
  refine sw_iload_n dX10_hasEdges_2 rfl ?_
  refine sw_aload_n dX10_hasEdges_3 rfl ?_
  refine sw_getf dX10_hasEdges_4 lf_X10_60 hc3 hv3 ?_
  exact sw_icmp_ge dX10_hasEdges_7 (by decide) (fun q => (sw_fg [true, true] rfl (kt q))) (fun q => (kf q))
theorem b_X10_hasEdges_10 {r0 : Nat} {l1 : Int32} {fs2 : List Value} {a2 : Nat} {vs4 : List Value} {x4 : Int32} (hc2 : (h)[r0]? = some (10, fs2)) (hv2 : fs2[2]? = some (.ref a2)) (hc4 : (h)[a2]? = some (100, vs4)) (ho4 : ¬ l1 < 0) (hi4 : vs4[l1.toNatClampNeg]? = some (.int x4)) (kt : x4 = 0 → SW sc m_X10_hasEdges d rc rs 21 [some (.ref r0), some (.int l1)] [] h P) (kf : ¬ (x4 = 0) → SW sc m_X10_hasEdges d rc rs 19 [none, none] [] h P) : SW sc m_X10_hasEdges d rc rs 10 [some (.ref r0), some (.int l1)] [] h P := by
  refine sw_aload_n dX10_hasEdges_10 rfl ?_
  refine sw_getf dX10_hasEdges_11 lf_X10_23 hc2 hv2 ?_
  refine sw_iload_n dX10_hasEdges_14 rfl ?_
  refine sw_iald dX10_hasEdges_15 hc4 ho4 hi4 ?_
  exact sw_if_eq dX10_hasEdges_16 (by decide) (fun q => (kt q)) (fun q => (sw_fg [true, true] rfl (kf q)))
theorem b_X10_hasEdges_19  (hP : P (.inl (some (.int 1))) h) : SW sc m_X10_hasEdges d rc rs 19 [none, none] [] h P := by
  refine sw_iconst (v := 1) dX10_hasEdges_19 (by decide) ?_
  exact sw_ret (v := (some (.int 1))) dX10_hasEdges_20 (rt_n (by decide)) hP
theorem b_X10_hasEdges_21 {r0 : Nat} {l1 : Int32} (k : SW sc m_X10_hasEdges d rc rs 2 [some (.ref r0), some (.int (l1 + 1))] [] h P) : SW sc m_X10_hasEdges d rc rs 21 [some (.ref r0), some (.int l1)] [] h P := by
  refine sw_iinc (v := l1 + 1) dX10_hasEdges_21 rfl rfl (by decide) rfl ?_
  show SW sc m_X10_hasEdges _ _ _ 24 [some (.ref r0), some (.int (l1 + 1))] [] h P
  exact sw_goto dX10_hasEdges_24 (by decide) (k)
theorem b_X10_hasEdges_27  (hP : P (.inl (some (.int 0))) h) : SW sc m_X10_hasEdges d rc rs 27 [none, none] [] h P := by
  refine sw_iconst (v := 0) dX10_hasEdges_27 (by decide) ?_
  exact sw_ret (v := (some (.int 0))) dX10_hasEdges_28 (rt_n (by decide)) hP
theorem b_X10_readsCode_0 {r0 : Nat} {v2 : Int32} {g2 : ab_H} {fs2 : List Value} (hr2 : (h)[r0]? = some (10, fs2)) (hm2 : MSE m_X10_hasEdges d [.ref r0] h (some (.int v2)) g2) (kt : v2 = 0 → SW sc m_X10_readsCode (d + 1) rc rs 13 [some (.ref r0), none] [] g2 P) (kf : ¬ (v2 = 0) → SW sc m_X10_readsCode (d + 1) rc rs 7 [some (.ref r0), none] [] g2 P) : SW sc m_X10_readsCode (d + 1) rc rs 0 [some (.ref r0), none] [] h P := by
  refine sw_aload_n dX10_readsCode_0 rfl ?_
  refine sw_cV (M := m_X10_readsCode) dX10_readsCode_1 lv_X10_221 hm2 hr2 rfl (by decide) rfl rfl rfl (Nat.le_of_ble_eq_true rfl) (fun _ _ => rfl) rfl ?_
  show SW sc m_X10_readsCode _ _ _ 4 [some (.ref r0), none] [.int v2] g2 P
  exact sw_if_eq dX10_readsCode_4 (by decide) (fun q => (kt q)) (fun q => (kf q))
theorem b_X10_readsCode_7 {r0 : Nat} {v3 : Int32} {g3 : ab_H} {fs3 : List Value} (hr3 : (h)[r0]? = some (10, fs3)) (hm3 : MSE m_X10_bad d [.ref r0, .int 4] h (some (.int v3)) g3) (hz4 : narrow .boolean (.int v3) = .int v3) (hP : P (.inl (some (.int v3))) g3) : SW sc m_X10_readsCode (d + 1) rc rs 7 [some (.ref r0), none] [] h P := by
  refine sw_aload_n dX10_readsCode_7 rfl ?_
  refine sw_iconst (v := 4) dX10_readsCode_8 (by decide) ?_
  refine sw_cV (M := m_X10_readsCode) dX10_readsCode_9 lv_X10_196 hm3 hr3 rfl (by decide) rfl rfl rfl (Nat.le_of_ble_eq_true rfl) (fun _ _ => rfl) rfl ?_
  show SW sc m_X10_readsCode _ _ _ 12 [some (.ref r0), none] [.int v3] g3 P
  exact sw_ret (v := (some (.int v3))) dX10_readsCode_12 (rt_n hz4) hP
theorem b_X10_readsCode_13 {r0 : Nat} {g2 : ab_H} {fs2 : List Value} (hr2 : (h)[r0]? = some (10, fs2)) (hm2 : MSE m_X10_go d [.ref r0] h none g2) (k : SW sc m_X10_readsCode (d + 1) rc rs 19 [some (.ref r0), some (.int 0)] [] g2 P) : SW sc m_X10_readsCode (d + 1) rc rs 13 [some (.ref r0), none] [] h P := by
  refine sw_aload_n dX10_readsCode_13 rfl ?_
  refine sw_cV (M := m_X10_readsCode) dX10_readsCode_14 lv_X10_202 hm2 hr2 rfl (by decide) rfl rfl rfl (Nat.le_of_ble_eq_true rfl) (fun _ _ => rfl) rfl ?_
  show SW sc m_X10_readsCode _ _ _ 17 [some (.ref r0), none] [] g2 P
  refine sw_iconst (v := 0) dX10_readsCode_17 (by decide) ?_
  refine sw_istore_n dX10_readsCode_18 (by decide) rfl ?_
  show SW sc m_X10_readsCode _ _ _ 19 [some (.ref r0), some (.int 0)] [] g2 P
  exact (k)
theorem b_X10_readsCode_19 {r0 : Nat} {l1 : Int32} {fs2 : List Value} {x2 : Int32} (hc2 : (h)[r0]? = some (10, fs2)) (hv2 : fs2[17]? = some (.int x2)) (kt : ¬ x2 = 3 → SW sc m_X10_readsCode d rc rs 81 [some (.ref r0), some (.int l1)] [] h P) (kf : x2 = 3 → SW sc m_X10_readsCode d rc rs 27 [some (.ref r0), some (.int l1)] [] h P) : SW sc m_X10_readsCode d rc rs 19 [some (.ref r0), some (.int l1)] [] h P := by
  refine sw_aload_n dX10_readsCode_19 rfl ?_
  refine sw_getf dX10_readsCode_20 lf_X10_169 hc2 hv2 ?_
  refine sw_iconst (v := 3) dX10_readsCode_23 (by decide) ?_
  exact sw_icmp_ne dX10_readsCode_24 (by decide) (fun q => (kt q)) (fun q => (kf q))
theorem b_X10_readsCode_27 {r0 : Nat} {l1 : Int32} {fs3 : List Value} {x3 : Int32} {v4 : Int32} {g4 : ab_H} (hc3 : (h)[r0]? = some (10, fs3)) (hv3 : fs3[10]? = some (.int x3)) (hm4 : MSE m_X10_codeMany d [.int x3] h (some (.int v4)) g4) (kt : ¬ l1 = v4 → SW sc m_X10_readsCode (d + 1) rc rs 44 [some (.ref r0), some (.int l1)] [] g4 P) (kf : l1 = v4 → SW sc m_X10_readsCode (d + 1) rc rs 38 [some (.ref r0), none] [] g4 P) : SW sc m_X10_readsCode (d + 1) rc rs 27 [some (.ref r0), some (.int l1)] [] h P := by
  refine sw_iload_n dX10_readsCode_27 rfl ?_
  refine sw_aload_n dX10_readsCode_28 rfl ?_
  refine sw_getf dX10_readsCode_29 lf_X10_60 hc3 hv3 ?_
  refine sw_cS (M := m_X10_readsCode) dX10_readsCode_32 ls_X10_215 hm4 rfl rfl (Nat.le_of_ble_eq_true rfl) (fun _ _ => rfl) rfl ?_
  show SW sc m_X10_readsCode _ _ _ 35 [some (.ref r0), some (.int l1)] [.int v4, .int l1] g4 P
  exact sw_icmp_ne dX10_readsCode_35 (by decide) (fun q => (kt q)) (fun q => (sw_fg [false, true] rfl (kf q)))
theorem b_X10_readsCode_38 {r0 : Nat} {v3 : Int32} {g3 : ab_H} {fs3 : List Value} (hr3 : (h)[r0]? = some (10, fs3)) (hm3 : MSE m_X10_bad d [.ref r0, .int 1] h (some (.int v3)) g3) (hz4 : narrow .boolean (.int v3) = .int v3) (hP : P (.inl (some (.int v3))) g3) : SW sc m_X10_readsCode (d + 1) rc rs 38 [some (.ref r0), none] [] h P := by
  refine sw_aload_n dX10_readsCode_38 rfl ?_
  refine sw_iconst (v := 1) dX10_readsCode_39 (by decide) ?_
  refine sw_cV (M := m_X10_readsCode) dX10_readsCode_40 lv_X10_196 hm3 hr3 rfl (by decide) rfl rfl rfl (Nat.le_of_ble_eq_true rfl) (fun _ _ => rfl) rfl ?_
  show SW sc m_X10_readsCode _ _ _ 43 [some (.ref r0), none] [.int v3] g3 P
  exact sw_ret (v := (some (.int v3))) dX10_readsCode_43 (rt_n hz4) hP
theorem b_X10_readsCode_44 {r0 : Nat} {l1 : Int32} {fs2 : List Value} {x2 : Int32} {fs4 : List Value} {x4 : Int32} (hc2 : (h)[r0]? = some (10, fs2)) (hv2 : fs2[18]? = some (.int x2)) (hc4 : (h)[r0]? = some (10, fs4)) (hv4 : fs4[10]? = some (.int x4)) (kt : x2 < x4 → SW sc m_X10_readsCode d rc rs 61 [some (.ref r0), some (.int l1)] [] h P) (kf : ¬ (x2 < x4) → SW sc m_X10_readsCode d rc rs 55 [some (.ref r0), none] [] h P) : SW sc m_X10_readsCode d rc rs 44 [some (.ref r0), some (.int l1)] [] h P := by
  refine sw_aload_n dX10_readsCode_44 rfl ?_
  refine sw_getf dX10_readsCode_45 lf_X10_178 hc2 hv2 ?_
  refine sw_aload_n dX10_readsCode_48 rfl ?_
  refine sw_getf dX10_readsCode_49 lf_X10_60 hc4 hv4 ?_
  exact sw_icmp_lt dX10_readsCode_52 (by decide) (fun q => (kt q)) (fun q => (sw_fg [false, true] rfl (kf q)))
theorem b_X10_readsCode_55 {r0 : Nat} {v3 : Int32} {g3 : ab_H} {fs3 : List Value} (hr3 : (h)[r0]? = some (10, fs3)) (hm3 : MSE m_X10_bad d [.ref r0, .int 2] h (some (.int v3)) g3) (hz4 : narrow .boolean (.int v3) = .int v3) (hP : P (.inl (some (.int v3))) g3) : SW sc m_X10_readsCode (d + 1) rc rs 55 [some (.ref r0), none] [] h P := by
  refine sw_aload_n dX10_readsCode_55 rfl ?_
  refine sw_iconst (v := 2) dX10_readsCode_56 (by decide) ?_
  refine sw_cV (M := m_X10_readsCode) dX10_readsCode_57 lv_X10_196 hm3 hr3 rfl (by decide) rfl rfl rfl (Nat.le_of_ble_eq_true rfl) (fun _ _ => rfl) rfl ?_
  show SW sc m_X10_readsCode _ _ _ 60 [some (.ref r0), none] [.int v3] g3 P
  exact sw_ret (v := (some (.int v3))) dX10_readsCode_60 (rt_n hz4) hP
theorem b_X10_readsCode_61 {r0 : Nat} {l1 : Int32} {fs2 : List Value} {a2 : Nat} {fs5 : List Value} {x5 : Int32} {vs6 : List Value} {g9 : ab_H} {fs9 : List Value} (hc2 : (h)[r0]? = some (10, fs2)) (hv2 : fs2[22]? = some (.ref a2)) (hc5 : (h)[r0]? = some (10, fs5)) (hv5 : fs5[18]? = some (.int x5)) (hc6 : (h)[a2]? = some (100, vs6)) (ho6 : ¬ l1 < 0) (hl6 : l1.toNatClampNeg < vs6.length) (hr9 : ((h).set a2 (100, vs6.set l1.toNatClampNeg (.int x5)))[r0]? = some (10, fs9)) (hm9 : MSE m_X10_go d [.ref r0] ((h).set a2 (100, vs6.set l1.toNatClampNeg (.int x5))) none g9) (k : SW sc m_X10_readsCode (d + 1) rc rs 19 [some (.ref r0), some (.int (l1 + 1))] [] g9 P) : SW sc m_X10_readsCode (d + 1) rc rs 61 [some (.ref r0), some (.int l1)] [] h P := by
  refine sw_aload_n dX10_readsCode_61 rfl ?_
  refine sw_getf dX10_readsCode_62 lf_X10_44 hc2 hv2 ?_
  refine sw_iload_n dX10_readsCode_65 rfl ?_
  refine sw_aload_n dX10_readsCode_66 rfl ?_
  refine sw_getf dX10_readsCode_67 lf_X10_178 hc5 hv5 ?_
  refine sw_iast dX10_readsCode_70 hc6 ho6 hl6 ?_
  refine sw_iinc (v := l1 + 1) dX10_readsCode_71 rfl rfl (by decide) rfl ?_
  show SW sc m_X10_readsCode _ _ _ 74 [some (.ref r0), some (.int (l1 + 1))] [] ((h).set a2 (100, vs6.set l1.toNatClampNeg (.int x5))) P
  refine sw_aload_n dX10_readsCode_74 rfl ?_
  refine sw_cV (M := m_X10_readsCode) dX10_readsCode_75 lv_X10_202 hm9 hr9 rfl (by decide) rfl rfl rfl (Nat.le_of_ble_eq_true rfl) (fun _ _ => rfl) rfl ?_
  show SW sc m_X10_readsCode _ _ _ 78 [some (.ref r0), some (.int (l1 + 1))] [] g9 P
  exact sw_goto dX10_readsCode_78 (by decide) (k)
theorem b_X10_readsCode_81 {r0 : Nat} {l1 : Int32} {fs3 : List Value} {x3 : Int32} {v4 : Int32} {g4 : ab_H} (hc3 : (h)[r0]? = some (10, fs3)) (hv3 : fs3[10]? = some (.int x3)) (hm4 : MSE m_X10_codeMany d [.int x3] h (some (.int v4)) g4) (kt : v4 ≤ l1 → SW sc m_X10_readsCode (d + 1) rc rs 98 [some (.ref r0), none] [] g4 P) (kf : ¬ (v4 ≤ l1) → SW sc m_X10_readsCode (d + 1) rc rs 92 [some (.ref r0), none] [] g4 P) : SW sc m_X10_readsCode (d + 1) rc rs 81 [some (.ref r0), some (.int l1)] [] h P := by
  refine sw_iload_n dX10_readsCode_81 rfl ?_
  refine sw_aload_n dX10_readsCode_82 rfl ?_
  refine sw_getf dX10_readsCode_83 lf_X10_60 hc3 hv3 ?_
  refine sw_cS (M := m_X10_readsCode) dX10_readsCode_86 ls_X10_215 hm4 rfl rfl (Nat.le_of_ble_eq_true rfl) (fun _ _ => rfl) rfl ?_
  show SW sc m_X10_readsCode _ _ _ 89 [some (.ref r0), some (.int l1)] [.int v4, .int l1] g4 P
  exact sw_icmp_ge dX10_readsCode_89 (by decide) (fun q => (sw_fg [false, true] rfl (kt q))) (fun q => (sw_fg [false, true] rfl (kf q)))
theorem b_X10_readsCode_92 {r0 : Nat} {v3 : Int32} {g3 : ab_H} {fs3 : List Value} (hr3 : (h)[r0]? = some (10, fs3)) (hm3 : MSE m_X10_bad d [.ref r0, .int 1] h (some (.int v3)) g3) (hz4 : narrow .boolean (.int v3) = .int v3) (hP : P (.inl (some (.int v3))) g3) : SW sc m_X10_readsCode (d + 1) rc rs 92 [some (.ref r0), none] [] h P := by
  refine sw_aload_n dX10_readsCode_92 rfl ?_
  refine sw_iconst (v := 1) dX10_readsCode_93 (by decide) ?_
  refine sw_cV (M := m_X10_readsCode) dX10_readsCode_94 lv_X10_196 hm3 hr3 rfl (by decide) rfl rfl rfl (Nat.le_of_ble_eq_true rfl) (fun _ _ => rfl) rfl ?_
  show SW sc m_X10_readsCode _ _ _ 97 [some (.ref r0), none] [.int v3] g3 P
  exact sw_ret (v := (some (.int v3))) dX10_readsCode_97 (rt_n hz4) hP
theorem b_X10_readsCode_98 {r0 : Nat} {fs2 : List Value} {x2 : Int32} (hc2 : (h)[r0]? = some (10, fs2)) (hv2 : fs2[17]? = some (.int x2)) (kt : x2 = 4 → SW sc m_X10_readsCode d rc rs 112 [some (.ref r0), none] [] h P) (kf : ¬ (x2 = 4) → SW sc m_X10_readsCode d rc rs 106 [some (.ref r0), none] [] h P) : SW sc m_X10_readsCode d rc rs 98 [some (.ref r0), none] [] h P := by
  refine sw_aload_n dX10_readsCode_98 rfl ?_
  refine sw_getf dX10_readsCode_99 lf_X10_169 hc2 hv2 ?_
  refine sw_iconst (v := 4) dX10_readsCode_102 (by decide) ?_
  exact sw_icmp_eq dX10_readsCode_103 (by decide) (fun q => (kt q)) (fun q => (kf q))
theorem b_X10_readsCode_106 {r0 : Nat} {v3 : Int32} {g3 : ab_H} {fs3 : List Value} (hr3 : (h)[r0]? = some (10, fs3)) (hm3 : MSE m_X10_bad d [.ref r0, .int 1] h (some (.int v3)) g3) (hz4 : narrow .boolean (.int v3) = .int v3) (hP : P (.inl (some (.int v3))) g3) : SW sc m_X10_readsCode (d + 1) rc rs 106 [some (.ref r0), none] [] h P := by
  refine sw_aload_n dX10_readsCode_106 rfl ?_
  refine sw_iconst (v := 1) dX10_readsCode_107 (by decide) ?_
  refine sw_cV (M := m_X10_readsCode) dX10_readsCode_108 lv_X10_196 hm3 hr3 rfl (by decide) rfl rfl rfl (Nat.le_of_ble_eq_true rfl) (fun _ _ => rfl) rfl ?_
  show SW sc m_X10_readsCode _ _ _ 111 [some (.ref r0), none] [.int v3] g3 P
  exact sw_ret (v := (some (.int v3))) dX10_readsCode_111 (rt_n hz4) hP
theorem b_X10_readsCode_112 {r0 : Nat} {fs3 : List Value} {x3 : Int32} {g4 : ab_H} {fs4 : List Value} (hc3 : (h)[r0]? = some (10, fs3)) (hv3 : fs3[10]? = some (.int x3)) (hr4 : (h)[r0]? = some (10, fs4)) (hm4 : MSE m_X10_grows d [.ref r0, .int x3] h none g4) (hP : P (.inl (some (.int 1))) g4) : SW sc m_X10_readsCode (d + 1) rc rs 112 [some (.ref r0), none] [] h P := by
  refine sw_aload_n dX10_readsCode_112 rfl ?_
  refine sw_aload_n dX10_readsCode_113 rfl ?_
  refine sw_getf dX10_readsCode_114 lf_X10_60 hc3 hv3 ?_
  refine sw_cV (M := m_X10_readsCode) dX10_readsCode_117 lv_X10_225 hm4 hr4 rfl (by decide) rfl rfl rfl (Nat.le_of_ble_eq_true rfl) (fun _ _ => rfl) rfl ?_
  show SW sc m_X10_readsCode _ _ _ 120 [some (.ref r0), none] [] g4 P
  refine sw_iconst (v := 1) dX10_readsCode_120 (by decide) ?_
  exact sw_ret (v := (some (.int 1))) dX10_readsCode_121 (rt_n (by decide)) hP
theorem b_X10_readsWeight_0 {r0 : Nat} {g2 : ab_H} {fs2 : List Value} {fs6 : List Value} {x6 : Int32} {v9 : Int32} {g9 : ab_H} {fs9 : List Value} (hr2 : (h)[r0]? = some (10, fs2)) (hm2 : MSE m_X10_go d [.ref r0] h none g2) (hc6 : (g2)[r0]? = some (10, fs6)) (hv6 : fs6[10]? = some (.int x6)) (hr9 : (g2)[r0]? = some (10, fs9)) (hm9 : MSE m_X10_reads d [.ref r0, .int 0, .int (x6 - 1)] g2 (some (.int v9)) g9) (kt : ¬ v9 = 0 → SW sc m_X10_readsWeight (d + 1) rc rs 20 [some (.ref r0), none] [] g9 P) (kf : v9 = 0 → SW sc m_X10_readsWeight (d + 1) rc rs 18 [none, none] [] g9 P) : SW sc m_X10_readsWeight (d + 1) rc rs 0 [some (.ref r0), none] [] h P := by
  refine sw_aload_n dX10_readsWeight_0 rfl ?_
  refine sw_cV (M := m_X10_readsWeight) dX10_readsWeight_1 lv_X10_202 hm2 hr2 rfl (by decide) rfl rfl rfl (Nat.le_of_ble_eq_true rfl) (fun _ _ => rfl) rfl ?_
  show SW sc m_X10_readsWeight _ _ _ 4 [some (.ref r0), none] [] g2 P
  refine sw_aload_n dX10_readsWeight_4 rfl ?_
  refine sw_iconst (v := 0) dX10_readsWeight_5 (by decide) ?_
  refine sw_aload_n dX10_readsWeight_6 rfl ?_
  refine sw_getf dX10_readsWeight_7 lf_X10_60 hc6 hv6 ?_
  refine sw_iconst (v := 1) dX10_readsWeight_10 (by decide) ?_
  refine sw_isub dX10_readsWeight_11 ?_
  refine sw_cV (M := m_X10_readsWeight) dX10_readsWeight_12 lv_X10_209 hm9 hr9 rfl (by decide) rfl rfl rfl (Nat.le_of_ble_eq_true rfl) (fun _ _ => rfl) rfl ?_
  show SW sc m_X10_readsWeight _ _ _ 15 [some (.ref r0), none] [.int v9] g9 P
  exact sw_if_ne dX10_readsWeight_15 (by decide) (fun q => (kt q)) (fun q => (sw_fg [true, false] rfl (kf q)))
theorem b_X10_readsWeight_18  (hP : P (.inl (some (.int 0))) h) : SW sc m_X10_readsWeight d rc rs 18 [none, none] [] h P := by
  refine sw_iconst (v := 0) dX10_readsWeight_18 (by decide) ?_
  exact sw_ret (v := (some (.int 0))) dX10_readsWeight_19 (rt_n (by decide)) hP
theorem b_X10_readsWeight_20 {r0 : Nat} {fs2 : List Value} {x2 : Int32} {v7 : Int32} {g7 : ab_H} {fs7 : List Value} (hc2 : (h)[r0]? = some (10, fs2)) (hv2 : fs2[21]? = some (.int x2)) (hr7 : (h)[r0]? = some (10, fs7)) (hm7 : MSE m_X10_reads d [.ref r0, .int 0, .int 99] h (some (.int v7)) g7) (kt : ¬ v7 = 0 → SW sc m_X10_readsWeight (d + 1) rc rs 37 [some (.ref r0), some (.int x2)] [] g7 P) (kf : v7 = 0 → SW sc m_X10_readsWeight (d + 1) rc rs 35 [none, none] [] g7 P) : SW sc m_X10_readsWeight (d + 1) rc rs 20 [some (.ref r0), none] [] h P := by
  refine sw_aload_n dX10_readsWeight_20 rfl ?_
  refine sw_getf dX10_readsWeight_21 lf_X10_199 hc2 hv2 ?_
  refine sw_istore_n dX10_readsWeight_24 (by decide) rfl ?_
  show SW sc m_X10_readsWeight _ _ _ 25 [some (.ref r0), some (.int x2)] [] h P
  refine sw_aload_n dX10_readsWeight_25 rfl ?_
  refine sw_iconst (v := 0) dX10_readsWeight_26 (by decide) ?_
  refine sw_bipush (v := 99) dX10_readsWeight_27 (by decide) ?_
  refine sw_cV (M := m_X10_readsWeight) dX10_readsWeight_29 lv_X10_209 hm7 hr7 rfl (by decide) rfl rfl rfl (Nat.le_of_ble_eq_true rfl) (fun _ _ => rfl) rfl ?_
  show SW sc m_X10_readsWeight _ _ _ 32 [some (.ref r0), some (.int x2)] [.int v7] g7 P
  exact sw_if_ne dX10_readsWeight_32 (by decide) (fun q => (kt q)) (fun q => (sw_fg [true, true] rfl (kf q)))
theorem b_X10_readsWeight_35  (hP : P (.inl (some (.int 0))) h) : SW sc m_X10_readsWeight d rc rs 35 [none, none] [] h P := by
  refine sw_iconst (v := 0) dX10_readsWeight_35 (by decide) ?_
  exact sw_ret (v := (some (.int 0))) dX10_readsWeight_36 (rt_n (by decide)) hP
theorem b_X10_readsWeight_37 {r0 : Nat} {l1 : Int32} {fs2 : List Value} {a2 : Nat} {fs7 : List Value} {x7 : Int32} {vs8 : List Value} (hc2 : (h)[r0]? = some (10, fs2)) (hv2 : fs2[2]? = some (.ref a2)) (hc7 : (h)[r0]? = some (10, fs7)) (hv7 : fs7[21]? = some (.int x7)) (hc8 : (h)[a2]? = some (100, vs8)) (ho8 : ¬ (10 + l1) < 0) (hl8 : (10 + l1).toNatClampNeg < vs8.length) (hP : P (.inl (some (.int 1))) ((h).set a2 (100, vs8.set (10 + l1).toNatClampNeg (.int x7)))) : SW sc m_X10_readsWeight d rc rs 37 [some (.ref r0), some (.int l1)] [] h P := by
  refine sw_aload_n dX10_readsWeight_37 rfl ?_
  refine sw_getf dX10_readsWeight_38 lf_X10_23 hc2 hv2 ?_
  refine sw_bipush (v := 10) dX10_readsWeight_41 (by decide) ?_
  refine sw_iload_n dX10_readsWeight_43 rfl ?_
  refine sw_iadd dX10_readsWeight_44 ?_
  refine sw_aload_n dX10_readsWeight_45 rfl ?_
  refine sw_getf dX10_readsWeight_46 lf_X10_199 hc7 hv7 ?_
  refine sw_iast dX10_readsWeight_49 hc8 ho8 hl8 ?_
  refine sw_iconst (v := 1) dX10_readsWeight_50 (by decide) ?_
  exact sw_ret (v := (some (.int 1))) dX10_readsWeight_51 (rt_n (by decide)) hP
theorem b_X10_readsStatement_0 {r0 : Nat} {v3 : Int32} {g3 : ab_H} {fs3 : List Value} (hr3 : (h)[r0]? = some (10, fs3)) (hm3 : MSE m_X10_isWord d [.ref r0, .retAddr 1] h (some (.int v3)) g3) (kt : v3 = 0 → SW sc m_X10_readsStatement (d + 1) rc rs 16 [some (.ref r0)] [] g3 P) (kf : ¬ (v3 = 0) → SW sc m_X10_readsStatement (d + 1) rc rs 9 [some (.ref r0)] [] g3 P) : SW sc m_X10_readsStatement (d + 1) rc rs 0 [some (.ref r0)] [] h P := by
  refine sw_aload_n dX10_readsStatement_0 rfl ?_
  refine sw_ldc (t := 1) dX10_readsStatement_1 sr_X10_228 rfl ?_
  refine sw_cV (M := m_X10_readsStatement) dX10_readsStatement_3 lv_X10_230 hm3 hr3 rfl (by decide) rfl rfl rfl (Nat.le_of_ble_eq_true rfl) (fun _ _ => rfl) rfl ?_
  show SW sc m_X10_readsStatement _ _ _ 6 [some (.ref r0)] [.int v3] g3 P
  exact sw_if_eq dX10_readsStatement_6 (by decide) (fun q => (kt q)) (fun q => (kf q))
theorem b_X10_readsStatement_9 {r0 : Nat} {v4 : Int32} {g4 : ab_H} {fs4 : List Value} (hr4 : (h)[r0]? = some (10, fs4)) (hm4 : MSE m_X10_readsEdges d [.ref r0, .int 1, .int 1] h (some (.int v4)) g4) (hz5 : narrow .boolean (.int v4) = .int v4) (hP : P (.inl (some (.int v4))) g4) : SW sc m_X10_readsStatement (d + 1) rc rs 9 [some (.ref r0)] [] h P := by
  refine sw_aload_n dX10_readsStatement_9 rfl ?_
  refine sw_iconst (v := 1) dX10_readsStatement_10 (by decide) ?_
  refine sw_iconst (v := 1) dX10_readsStatement_11 (by decide) ?_
  refine sw_cV (M := m_X10_readsStatement) dX10_readsStatement_12 lv_X10_234 hm4 hr4 rfl (by decide) rfl rfl rfl (Nat.le_of_ble_eq_true rfl) (fun _ _ => rfl) rfl ?_
  show SW sc m_X10_readsStatement _ _ _ 15 [some (.ref r0)] [.int v4] g4 P
  exact sw_ret (v := (some (.int v4))) dX10_readsStatement_15 (rt_n hz5) hP
theorem b_X10_readsStatement_16 {r0 : Nat} {v3 : Int32} {g3 : ab_H} {fs3 : List Value} (hr3 : (h)[r0]? = some (10, fs3)) (hm3 : MSE m_X10_isWord d [.ref r0, .retAddr 2] h (some (.int v3)) g3) (kt : v3 = 0 → SW sc m_X10_readsStatement (d + 1) rc rs 32 [some (.ref r0)] [] g3 P) (kf : ¬ (v3 = 0) → SW sc m_X10_readsStatement (d + 1) rc rs 25 [some (.ref r0)] [] g3 P) : SW sc m_X10_readsStatement (d + 1) rc rs 16 [some (.ref r0)] [] h P := by
  refine sw_aload_n dX10_readsStatement_16 rfl ?_
  refine sw_ldc (t := 2) dX10_readsStatement_17 sr_X10_238 rfl ?_
  refine sw_cV (M := m_X10_readsStatement) dX10_readsStatement_19 lv_X10_230 hm3 hr3 rfl (by decide) rfl rfl rfl (Nat.le_of_ble_eq_true rfl) (fun _ _ => rfl) rfl ?_
  show SW sc m_X10_readsStatement _ _ _ 22 [some (.ref r0)] [.int v3] g3 P
  exact sw_if_eq dX10_readsStatement_22 (by decide) (fun q => (kt q)) (fun q => (kf q))
theorem b_X10_readsStatement_25 {r0 : Nat} {v4 : Int32} {g4 : ab_H} {fs4 : List Value} (hr4 : (h)[r0]? = some (10, fs4)) (hm4 : MSE m_X10_readsEdges d [.ref r0, .int 1, .int 0] h (some (.int v4)) g4) (hz5 : narrow .boolean (.int v4) = .int v4) (hP : P (.inl (some (.int v4))) g4) : SW sc m_X10_readsStatement (d + 1) rc rs 25 [some (.ref r0)] [] h P := by
  refine sw_aload_n dX10_readsStatement_25 rfl ?_
  refine sw_iconst (v := 1) dX10_readsStatement_26 (by decide) ?_
  refine sw_iconst (v := 0) dX10_readsStatement_27 (by decide) ?_
  refine sw_cV (M := m_X10_readsStatement) dX10_readsStatement_28 lv_X10_234 hm4 hr4 rfl (by decide) rfl rfl rfl (Nat.le_of_ble_eq_true rfl) (fun _ _ => rfl) rfl ?_
  show SW sc m_X10_readsStatement _ _ _ 31 [some (.ref r0)] [.int v4] g4 P
  exact sw_ret (v := (some (.int v4))) dX10_readsStatement_31 (rt_n hz5) hP
theorem b_X10_readsStatement_32 {r0 : Nat} {v3 : Int32} {g3 : ab_H} {fs3 : List Value} (hr3 : (h)[r0]? = some (10, fs3)) (hm3 : MSE m_X10_isWord d [.ref r0, .retAddr 3] h (some (.int v3)) g3) (kt : v3 = 0 → SW sc m_X10_readsStatement (d + 1) rc rs 48 [some (.ref r0)] [] g3 P) (kf : ¬ (v3 = 0) → SW sc m_X10_readsStatement (d + 1) rc rs 41 [some (.ref r0)] [] g3 P) : SW sc m_X10_readsStatement (d + 1) rc rs 32 [some (.ref r0)] [] h P := by
  refine sw_aload_n dX10_readsStatement_32 rfl ?_
  refine sw_ldc (t := 3) dX10_readsStatement_33 sr_X10_240 rfl ?_
  refine sw_cV (M := m_X10_readsStatement) dX10_readsStatement_35 lv_X10_230 hm3 hr3 rfl (by decide) rfl rfl rfl (Nat.le_of_ble_eq_true rfl) (fun _ _ => rfl) rfl ?_
  show SW sc m_X10_readsStatement _ _ _ 38 [some (.ref r0)] [.int v3] g3 P
  exact sw_if_eq dX10_readsStatement_38 (by decide) (fun q => (kt q)) (fun q => (kf q))
theorem b_X10_readsStatement_41 {r0 : Nat} {v4 : Int32} {g4 : ab_H} {fs4 : List Value} (hr4 : (h)[r0]? = some (10, fs4)) (hm4 : MSE m_X10_readsEdges d [.ref r0, .int 0, .int 0] h (some (.int v4)) g4) (hz5 : narrow .boolean (.int v4) = .int v4) (hP : P (.inl (some (.int v4))) g4) : SW sc m_X10_readsStatement (d + 1) rc rs 41 [some (.ref r0)] [] h P := by
  refine sw_aload_n dX10_readsStatement_41 rfl ?_
  refine sw_iconst (v := 0) dX10_readsStatement_42 (by decide) ?_
  refine sw_iconst (v := 0) dX10_readsStatement_43 (by decide) ?_
  refine sw_cV (M := m_X10_readsStatement) dX10_readsStatement_44 lv_X10_234 hm4 hr4 rfl (by decide) rfl rfl rfl (Nat.le_of_ble_eq_true rfl) (fun _ _ => rfl) rfl ?_
  show SW sc m_X10_readsStatement _ _ _ 47 [some (.ref r0)] [.int v4] g4 P
  exact sw_ret (v := (some (.int v4))) dX10_readsStatement_47 (rt_n hz5) hP
theorem b_X10_readsStatement_48 {r0 : Nat} {v3 : Int32} {g3 : ab_H} {fs3 : List Value} (hr3 : (h)[r0]? = some (10, fs3)) (hm3 : MSE m_X10_isWord d [.ref r0, .retAddr 4] h (some (.int v3)) g3) (kt : v3 = 0 → SW sc m_X10_readsStatement (d + 1) rc rs 62 [some (.ref r0)] [] g3 P) (kf : ¬ (v3 = 0) → SW sc m_X10_readsStatement (d + 1) rc rs 57 [some (.ref r0)] [] g3 P) : SW sc m_X10_readsStatement (d + 1) rc rs 48 [some (.ref r0)] [] h P := by
  refine sw_aload_n dX10_readsStatement_48 rfl ?_
  refine sw_ldc (t := 4) dX10_readsStatement_49 sr_X10_242 rfl ?_
  refine sw_cV (M := m_X10_readsStatement) dX10_readsStatement_51 lv_X10_230 hm3 hr3 rfl (by decide) rfl rfl rfl (Nat.le_of_ble_eq_true rfl) (fun _ _ => rfl) rfl ?_
  show SW sc m_X10_readsStatement _ _ _ 54 [some (.ref r0)] [.int v3] g3 P
  exact sw_if_eq dX10_readsStatement_54 (by decide) (fun q => (kt q)) (fun q => (kf q))
theorem b_X10_readsStatement_57 {r0 : Nat} {v2 : Int32} {g2 : ab_H} {fs2 : List Value} (hr2 : (h)[r0]? = some (10, fs2)) (hm2 : MSE m_X10_readsCode d [.ref r0] h (some (.int v2)) g2) (hz3 : narrow .boolean (.int v2) = .int v2) (hP : P (.inl (some (.int v2))) g2) : SW sc m_X10_readsStatement (d + 1) rc rs 57 [some (.ref r0)] [] h P := by
  refine sw_aload_n dX10_readsStatement_57 rfl ?_
  refine sw_cV (M := m_X10_readsStatement) dX10_readsStatement_58 lv_X10_243 hm2 hr2 rfl (by decide) rfl rfl rfl (Nat.le_of_ble_eq_true rfl) (fun _ _ => rfl) rfl ?_
  show SW sc m_X10_readsStatement _ _ _ 61 [some (.ref r0)] [.int v2] g2 P
  exact sw_ret (v := (some (.int v2))) dX10_readsStatement_61 (rt_n hz3) hP
theorem b_X10_readsStatement_62 {r0 : Nat} {v3 : Int32} {g3 : ab_H} {fs3 : List Value} (hr3 : (h)[r0]? = some (10, fs3)) (hm3 : MSE m_X10_isWord d [.ref r0, .retAddr 5] h (some (.int v3)) g3) (kt : v3 = 0 → SW sc m_X10_readsStatement (d + 1) rc rs 78 [some (.ref r0)] [] g3 P) (kf : ¬ (v3 = 0) → SW sc m_X10_readsStatement (d + 1) rc rs 71 [some (.ref r0)] [] g3 P) : SW sc m_X10_readsStatement (d + 1) rc rs 62 [some (.ref r0)] [] h P := by
  refine sw_aload_n dX10_readsStatement_62 rfl ?_
  refine sw_ldc (t := 5) dX10_readsStatement_63 sr_X10_246 rfl ?_
  refine sw_cV (M := m_X10_readsStatement) dX10_readsStatement_65 lv_X10_230 hm3 hr3 rfl (by decide) rfl rfl rfl (Nat.le_of_ble_eq_true rfl) (fun _ _ => rfl) rfl ?_
  show SW sc m_X10_readsStatement _ _ _ 68 [some (.ref r0)] [.int v3] g3 P
  exact sw_if_eq dX10_readsStatement_68 (by decide) (fun q => (kt q)) (fun q => (kf q))
theorem b_X10_readsStatement_71 {r0 : Nat} {v2 : Int32} {g2 : ab_H} {fs2 : List Value} (hr2 : (h)[r0]? = some (10, fs2)) (hm2 : MSE m_X10_readsWeight d [.ref r0] h (some (.int v2)) g2) (k : SW sc m_X10_readsStatement (d + 1) rc rs 83 [none] [.int v2] g2 P) : SW sc m_X10_readsStatement (d + 1) rc rs 71 [some (.ref r0)] [] h P := by
  refine sw_aload_n dX10_readsStatement_71 rfl ?_
  refine sw_cV (M := m_X10_readsStatement) dX10_readsStatement_72 lv_X10_248 hm2 hr2 rfl (by decide) rfl rfl rfl (Nat.le_of_ble_eq_true rfl) (fun _ _ => rfl) rfl ?_
  show SW sc m_X10_readsStatement _ _ _ 75 [some (.ref r0)] [.int v2] g2 P
  exact sw_goto dX10_readsStatement_75 (by decide) (sw_fg [true] rfl (k))
theorem b_X10_readsStatement_78 {r0 : Nat} {v3 : Int32} {g3 : ab_H} {fs3 : List Value} (hr3 : (h)[r0]? = some (10, fs3)) (hm3 : MSE m_X10_bad d [.ref r0, .int 1] h (some (.int v3)) g3) (k : SW sc m_X10_readsStatement (d + 1) rc rs 83 [none] [.int v3] g3 P) : SW sc m_X10_readsStatement (d + 1) rc rs 78 [some (.ref r0)] [] h P := by
  refine sw_aload_n dX10_readsStatement_78 rfl ?_
  refine sw_iconst (v := 1) dX10_readsStatement_79 (by decide) ?_
  refine sw_cV (M := m_X10_readsStatement) dX10_readsStatement_80 lv_X10_196 hm3 hr3 rfl (by decide) rfl rfl rfl (Nat.le_of_ble_eq_true rfl) (fun _ _ => rfl) rfl ?_
  show SW sc m_X10_readsStatement _ _ _ 83 [some (.ref r0)] [.int v3] g3 P
  exact (sw_fg [true] rfl (k))
theorem b_X10_readsStatement_83 {s0 : Int32} (hz1 : narrow .boolean (.int s0) = .int s0) (hP : P (.inl (some (.int s0))) h) : SW sc m_X10_readsStatement d rc rs 83 [none] [.int s0] h P := by
  exact sw_ret (v := (some (.int s0))) dX10_readsStatement_83 (rt_n hz1) hP
end
