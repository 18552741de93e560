section
variable {sc : Option (List Int32)} {d rc rs : Nat} {h : ab_H} {P : ab_O → ab_H → Prop}
theorem b_X10_withLeaves_70  (k : SW sc m_X10_withLeaves d rc rs 94 [none, none, none] [.int 0] h P) : SW sc m_X10_withLeaves d rc rs 70 [none, none, none] [] h P := by
  refine sw_iconst (v := 0) dX10_withLeaves_70 (by decide) ?_
  exact sw_goto dX10_withLeaves_71 (by decide) (k)
theorem b_X10_withLeaves_74 {l1 : Int32} {l2 : Int32} {v2 : Int64} {g2 : ab_H} {v4 : Int64} {g4 : ab_H} {v12 : Int64} {g12 : ab_H} (hm2 : MSE m_X10_factorial d [.int l1] h (some (.long v2)) g2) (hm4 : MSE m_X10_factorial d [.int l2] g2 (some (.long v4)) g4) (hz5 : ¬ v4 = 0) (hm12 : MSE m_X10_partings d [.int (l1 - 2), .int (l1 - l2)] g4 (some (.long v12)) g12) (k : SW sc m_X10_withLeaves (d + 1) rc rs 94 [none, none, none] [.int (((v2 / v4) * v12).toInt32)] g12 P) : SW sc m_X10_withLeaves (d + 1) rc rs 74 [none, some (.int l1), some (.int l2)] [] h P := by
  refine sw_iload_n dX10_withLeaves_74 rfl ?_
  refine sw_cS (M := m_X10_withLeaves) dX10_withLeaves_75 ls_X10_313 hm2 rfl rfl (Nat.le_of_ble_eq_true rfl) (fun _ _ => rfl) rfl ?_
  show SW sc m_X10_withLeaves _ _ _ 78 [none, some (.int l1), some (.int l2)] [.long v2] g2 P
  refine sw_iload_n dX10_withLeaves_78 rfl ?_
  refine sw_cS (M := m_X10_withLeaves) dX10_withLeaves_79 ls_X10_313 hm4 rfl rfl (Nat.le_of_ble_eq_true rfl) (fun _ _ => rfl) rfl ?_
  show SW sc m_X10_withLeaves _ _ _ 82 [none, some (.int l1), some (.int l2)] [.long v4, .long v2] g4 P
  refine sw_ldiv dX10_withLeaves_82 hz5 ?_
  refine sw_iload_n dX10_withLeaves_83 rfl ?_
  refine sw_iconst (v := 2) dX10_withLeaves_84 (by decide) ?_
  refine sw_isub dX10_withLeaves_85 ?_
  refine sw_iload_n dX10_withLeaves_86 rfl ?_
  refine sw_iload_n dX10_withLeaves_87 rfl ?_
  refine sw_isub dX10_withLeaves_88 ?_
  refine sw_cS (M := m_X10_withLeaves) dX10_withLeaves_89 ls_X10_333 hm12 rfl rfl (Nat.le_of_ble_eq_true rfl) (fun _ _ => rfl) rfl ?_
  show SW sc m_X10_withLeaves _ _ _ 92 [none, some (.int l1), some (.int l2)] [.long v12, .long (v2 / v4)] g12 P
  refine sw_lmul dX10_withLeaves_92 ?_
  refine sw_l2i dX10_withLeaves_93 ?_
  exact (sw_fg [false, true, true] rfl (k))
theorem b_X10_withLeaves_94 {s0 : Int32} (hP : P (.inl (some (.int s0))) h) : SW sc m_X10_withLeaves d rc rs 94 [none, none, none] [.int s0] h P := by
  exact sw_ret (v := (some (.int s0))) dX10_withLeaves_94 rt_i hP
theorem b_X10_laysRooted_0 {r0 : Nat} {fs2 : List Value} {a2 : Nat} {vs5 : List Value} (hc2 : (h)[r0]? = some (10, fs2)) (hv2 : fs2[25]? = some (.ref a2)) (hc5 : (h)[a2]? = some (100, vs5)) (ho5 : ¬ (1 : Int32) < 0) (hl5 : (1 : Int32).toNatClampNeg < vs5.length) (k : SW sc m_X10_laysRooted d rc rs 9 [some (.ref r0), some (.int 1), none, none, none, none] [] ((h).set a2 (100, vs5.set (1 : Int32).toNatClampNeg (.int 1))) P) : SW sc m_X10_laysRooted d rc rs 0 [some (.ref r0), none, none, none, none, none] [] h P := by
  refine sw_aload_n dX10_laysRooted_0 rfl ?_
  refine sw_getf dX10_laysRooted_1 lf_X10_50 hc2 hv2 ?_
  refine sw_iconst (v := 1) dX10_laysRooted_4 (by decide) ?_
  refine sw_iconst (v := 1) dX10_laysRooted_5 (by decide) ?_
  refine sw_iast dX10_laysRooted_6 hc5 ho5 hl5 ?_
  refine sw_iconst (v := 1) dX10_laysRooted_7 (by decide) ?_
  refine sw_istore_n dX10_laysRooted_8 (by decide) rfl ?_
  show SW sc m_X10_laysRooted _ _ _ 9 [some (.ref r0), some (.int 1), none, none, none, none] [] ((h).set a2 (100, vs5.set (1 : Int32).toNatClampNeg (.int 1))) P
  exact (k)
theorem b_X10_laysRooted_9 {r0 : Nat} {l1 : Int32} (kt : 10 ≤ l1 → SW sc m_X10_laysRooted d rc rs 107 [none, none, none, none, none, none] [] h P) (kf : ¬ (10 ≤ l1) → SW sc m_X10_laysRooted d rc rs 15 [some (.ref r0), some (.int l1), none, none, none, none] [] h P) : SW sc m_X10_laysRooted d rc rs 9 [some (.ref r0), some (.int l1), none, none, none, none] [] h P := by
  refine sw_iload_n dX10_laysRooted_9 rfl ?_
  refine sw_bipush (v := 10) dX10_laysRooted_10 (by decide) ?_
  exact sw_icmp_ge dX10_laysRooted_12 (by decide) (fun q => (sw_fg [true, true, false, false, false, false] rfl (kt q))) (fun q => (kf q))
theorem b_X10_laysRooted_15 {r0 : Nat} {l1 : Int32} (k : SW sc m_X10_laysRooted d rc rs 19 [some (.ref r0), some (.int l1), some (.int 0), some (.int 1), none, none] [] h P) : SW sc m_X10_laysRooted d rc rs 15 [some (.ref r0), some (.int l1), none, none, none, none] [] h P := by
  refine sw_iconst (v := 0) dX10_laysRooted_15 (by decide) ?_
  refine sw_istore_n dX10_laysRooted_16 (by decide) rfl ?_
  show SW sc m_X10_laysRooted _ _ _ 17 [some (.ref r0), some (.int l1), some (.int 0), none, none, none] [] h P
  refine sw_iconst (v := 1) dX10_laysRooted_17 (by decide) ?_
  refine sw_istore_n dX10_laysRooted_18 (by decide) rfl ?_
  show SW sc m_X10_laysRooted _ _ _ 19 [some (.ref r0), some (.int l1), some (.int 0), some (.int 1), none, none] [] h P
  exact (k)
theorem b_X10_laysRooted_19 {r0 : Nat} {l1 : Int32} {l2 : Int32} {l3 : Int32} (kt : l1 < l3 → SW sc m_X10_laysRooted d rc rs 90 [some (.ref r0), some (.int l1), some (.int l2), none, none, none] [] h P) (kf : ¬ (l1 < l3) → SW sc m_X10_laysRooted d rc rs 24 [some (.ref r0), some (.int l1), some (.int l2), some (.int l3), none, none] [] h P) : SW sc m_X10_laysRooted d rc rs 19 [some (.ref r0), some (.int l1), some (.int l2), some (.int l3), none, none] [] h P := by
  refine sw_iload_n dX10_laysRooted_19 rfl ?_
  refine sw_iload_n dX10_laysRooted_20 rfl ?_
  exact sw_icmp_gt dX10_laysRooted_21 (by decide) (fun q => (sw_fg [false, false, false, true, false, false] rfl (kt q))) (fun q => (kf q))
theorem b_X10_laysRooted_24 {r0 : Nat} {l1 : Int32} {l2 : Int32} {l3 : Int32} (k : SW sc m_X10_laysRooted d rc rs 30 [some (.ref r0), some (.int l1), some (.int l2), some (.int l3), some (.int 0), some (.int 1)] [] h P) : SW sc m_X10_laysRooted d rc rs 24 [some (.ref r0), some (.int l1), some (.int l2), some (.int l3), none, none] [] h P := by
  refine sw_iconst (v := 0) dX10_laysRooted_24 (by decide) ?_
  refine sw_istore dX10_laysRooted_25 (by decide) rfl ?_
  show SW sc m_X10_laysRooted _ _ _ 27 [some (.ref r0), some (.int l1), some (.int l2), some (.int l3), some (.int 0), none] [] h P
  refine sw_iconst (v := 1) dX10_laysRooted_27 (by decide) ?_
  refine sw_istore dX10_laysRooted_28 (by decide) rfl ?_
  show SW sc m_X10_laysRooted _ _ _ 30 [some (.ref r0), some (.int l1), some (.int l2), some (.int l3), some (.int 0), some (.int 1)] [] h P
  exact (k)
theorem b_X10_laysRooted_30 {r0 : Nat} {l1 : Int32} {l2 : Int32} {l3 : Int32} {l4 : Int32} {l5 : Int32} (kt : l3 < l5 → SW sc m_X10_laysRooted d rc rs 68 [some (.ref r0), some (.int l1), some (.int l2), some (.int l3), some (.int l4), none] [] h P) (kf : ¬ (l3 < l5) → SW sc m_X10_laysRooted d rc rs 36 [some (.ref r0), some (.int l1), some (.int l2), some (.int l3), some (.int l4), some (.int l5)] [] h P) : SW sc m_X10_laysRooted d rc rs 30 [some (.ref r0), some (.int l1), some (.int l2), some (.int l3), some (.int l4), some (.int l5)] [] h P := by
  refine sw_iload dX10_laysRooted_30 rfl ?_
  refine sw_iload_n dX10_laysRooted_32 rfl ?_
  exact sw_icmp_gt dX10_laysRooted_33 (by decide) (fun q => (sw_fg [false, false, false, false, false, true] rfl (kt q))) (fun q => (kf q))
theorem b_X10_laysRooted_36 {r0 : Nat} {l1 : Int32} {l2 : Int32} {l3 : Int32} {l4 : Int32} {l5 : Int32} (hz4 : ¬ l5 = 0) (kt : ¬ (l3 - l3 / l5 * l5) = 0 → SW sc m_X10_laysRooted d rc rs 58 [some (.ref r0), some (.int l1), some (.int l2), some (.int l3), none, some (.int l5)] [.int l4] h P) (kf : (l3 - l3 / l5 * l5) = 0 → SW sc m_X10_laysRooted d rc rs 45 [some (.ref r0), some (.int l1), some (.int l2), some (.int l3), none, some (.int l5)] [.int l4] h P) : SW sc m_X10_laysRooted d rc rs 36 [some (.ref r0), some (.int l1), some (.int l2), some (.int l3), some (.int l4), some (.int l5)] [] h P := by
  refine sw_iload dX10_laysRooted_36 rfl ?_
  refine sw_iload_n dX10_laysRooted_38 rfl ?_
  refine sw_iload dX10_laysRooted_39 rfl ?_
  refine sw_irem dX10_laysRooted_41 hz4 ?_
  exact sw_if_ne dX10_laysRooted_42 (by decide) (fun q => (sw_fg [false, false, false, false, true, false] rfl (kt q))) (fun q => (sw_fg [false, false, false, false, true, false] rfl (kf q)))
theorem b_X10_laysRooted_45 {r0 : Nat} {l1 : Int32} {l2 : Int32} {l3 : Int32} {l5 : Int32} {s0 : Int32} {fs3 : List Value} {a3 : Nat} {vs5 : List Value} {x5 : Int32} (hc3 : (h)[r0]? = some (10, fs3)) (hv3 : fs3[25]? = some (.ref a3)) (hc5 : (h)[a3]? = some (100, vs5)) (ho5 : ¬ l5 < 0) (hi5 : vs5[l5.toNatClampNeg]? = some (.int x5)) (k : SW sc m_X10_laysRooted d rc rs 59 [some (.ref r0), some (.int l1), some (.int l2), some (.int l3), none, some (.int l5)] [.int (l5 * x5), .int s0] h P) : SW sc m_X10_laysRooted d rc rs 45 [some (.ref r0), some (.int l1), some (.int l2), some (.int l3), none, some (.int l5)] [.int s0] h P := by
  refine sw_iload dX10_laysRooted_45 rfl ?_
  refine sw_aload_n dX10_laysRooted_47 rfl ?_
  refine sw_getf dX10_laysRooted_48 lf_X10_50 hc3 hv3 ?_
  refine sw_iload dX10_laysRooted_51 rfl ?_
  refine sw_iald dX10_laysRooted_53 hc5 ho5 hi5 ?_
  refine sw_imul dX10_laysRooted_54 ?_
  exact sw_goto dX10_laysRooted_55 (by decide) (k)
theorem b_X10_laysRooted_58 {r0 : Nat} {l1 : Int32} {l2 : Int32} {l3 : Int32} {l5 : Int32} {s0 : Int32} (k : SW sc m_X10_laysRooted d rc rs 59 [some (.ref r0), some (.int l1), some (.int l2), some (.int l3), none, some (.int l5)] [.int 0, .int s0] h P) : SW sc m_X10_laysRooted d rc rs 58 [some (.ref r0), some (.int l1), some (.int l2), some (.int l3), none, some (.int l5)] [.int s0] h P := by
  refine sw_iconst (v := 0) dX10_laysRooted_58 (by decide) ?_
  exact (k)
theorem b_X10_laysRooted_59 {r0 : Nat} {l1 : Int32} {l2 : Int32} {l3 : Int32} {l5 : Int32} {s0 : Int32} {s1 : Int32} (k : SW sc m_X10_laysRooted d rc rs 30 [some (.ref r0), some (.int l1), some (.int l2), some (.int l3), some (.int (s0 + s1)), some (.int (l5 + 1))] [] h P) : SW sc m_X10_laysRooted d rc rs 59 [some (.ref r0), some (.int l1), some (.int l2), some (.int l3), none, some (.int l5)] [.int s1, .int s0] h P := by
  refine sw_iadd dX10_laysRooted_59 ?_
  refine sw_istore dX10_laysRooted_60 (by decide) rfl ?_
  show SW sc m_X10_laysRooted _ _ _ 62 [some (.ref r0), some (.int l1), some (.int l2), some (.int l3), some (.int (s0 + s1)), some (.int l5)] [] h P
  refine sw_iinc (v := l5 + 1) dX10_laysRooted_62 rfl rfl (by decide) rfl ?_
  show SW sc m_X10_laysRooted _ _ _ 65 [some (.ref r0), some (.int l1), some (.int l2), some (.int l3), some (.int (s0 + s1)), some (.int (l5 + 1))] [] h P
  exact sw_goto dX10_laysRooted_65 (by decide) (k)
theorem b_X10_laysRooted_68 {r0 : Nat} {l1 : Int32} {l2 : Int32} {l3 : Int32} {l4 : Int32} {fs4 : List Value} {a4 : Nat} {vs10 : List Value} {x10 : Int32} (hc4 : (h)[r0]? = some (10, fs4)) (hv4 : fs4[25]? = some (.ref a4)) (hc10 : (h)[a4]? = some (100, vs10)) (ho10 : ¬ ((l1 - l3) + 1) < 0) (hi10 : vs10[((l1 - l3) + 1).toNatClampNeg]? = some (.int x10)) (k : SW sc m_X10_laysRooted d rc rs 19 [some (.ref r0), some (.int l1), some (.int (l2 + (l4 * x10))), some (.int (l3 + 1)), none, none] [] h P) : SW sc m_X10_laysRooted d rc rs 68 [some (.ref r0), some (.int l1), some (.int l2), some (.int l3), some (.int l4), none] [] h P := by
  refine sw_iload_n dX10_laysRooted_68 rfl ?_
  refine sw_iload dX10_laysRooted_69 rfl ?_
  refine sw_aload_n dX10_laysRooted_71 rfl ?_
  refine sw_getf dX10_laysRooted_72 lf_X10_50 hc4 hv4 ?_
  refine sw_iload_n dX10_laysRooted_75 rfl ?_
  refine sw_iload_n dX10_laysRooted_76 rfl ?_
  refine sw_isub dX10_laysRooted_77 ?_
  refine sw_iconst (v := 1) dX10_laysRooted_78 (by decide) ?_
  refine sw_iadd dX10_laysRooted_79 ?_
  refine sw_iald dX10_laysRooted_80 hc10 ho10 hi10 ?_
  refine sw_imul dX10_laysRooted_81 ?_
  refine sw_iadd dX10_laysRooted_82 ?_
  refine sw_istore_n dX10_laysRooted_83 (by decide) rfl ?_
  show SW sc m_X10_laysRooted _ _ _ 84 [some (.ref r0), some (.int l1), some (.int (l2 + (l4 * x10))), some (.int l3), some (.int l4), none] [] h P
  refine sw_iinc (v := l3 + 1) dX10_laysRooted_84 rfl rfl (by decide) rfl ?_
  show SW sc m_X10_laysRooted _ _ _ 87 [some (.ref r0), some (.int l1), some (.int (l2 + (l4 * x10))), some (.int (l3 + 1)), some (.int l4), none] [] h P
  exact sw_goto dX10_laysRooted_87 (by decide) (sw_fg [false, false, false, false, true, false] rfl (k))
theorem b_X10_laysRooted_90 {r0 : Nat} {l1 : Int32} {l2 : Int32} {fs2 : List Value} {a2 : Nat} {vs9 : List Value} (hc2 : (h)[r0]? = some (10, fs2)) (hv2 : fs2[25]? = some (.ref a2)) (hz8 : ¬ l1 = 0) (hc9 : (h)[a2]? = some (100, vs9)) (ho9 : ¬ (l1 + 1) < 0) (hl9 : (l1 + 1).toNatClampNeg < vs9.length) (k : SW sc m_X10_laysRooted d rc rs 9 [some (.ref r0), some (.int (l1 + 1)), none, none, none, none] [] ((h).set a2 (100, vs9.set (l1 + 1).toNatClampNeg (.int (l2 / l1)))) P) : SW sc m_X10_laysRooted d rc rs 90 [some (.ref r0), some (.int l1), some (.int l2), none, none, none] [] h P := by
  refine sw_aload_n dX10_laysRooted_90 rfl ?_
  refine sw_getf dX10_laysRooted_91 lf_X10_50 hc2 hv2 ?_
  refine sw_iload_n dX10_laysRooted_94 rfl ?_
  refine sw_iconst (v := 1) dX10_laysRooted_95 (by decide) ?_
  refine sw_iadd dX10_laysRooted_96 ?_
  refine sw_iload_n dX10_laysRooted_97 rfl ?_
  refine sw_iload_n dX10_laysRooted_98 rfl ?_
  refine sw_idiv dX10_laysRooted_99 hz8 ?_
  refine sw_iast dX10_laysRooted_100 hc9 ho9 hl9 ?_
  refine sw_iinc (v := l1 + 1) dX10_laysRooted_101 rfl rfl (by decide) rfl ?_
  show SW sc m_X10_laysRooted _ _ _ 104 [some (.ref r0), some (.int (l1 + 1)), some (.int l2), none, none, none] [] ((h).set a2 (100, vs9.set (l1 + 1).toNatClampNeg (.int (l2 / l1)))) P
  exact sw_goto dX10_laysRooted_104 (by decide) (sw_fg [false, false, true, false, false, false] rfl (k))
theorem b_X10_laysRooted_107  (hP : P (.inl none) h) : SW sc m_X10_laysRooted d rc rs 107 [none, none, none, none, none, none] [] h P := by
  exact sw_ret (v := none) dX10_laysRooted_107 rt_v hP
theorem b_X10_classes_0 {r0 : Nat} {l1 : Int32} {l2 : Int32} {v5 : Int32} {g5 : ab_H} (hm5 : MSE m_X10_isIn d [.int l1, .int 1, .int 10] h (some (.int v5)) g5) (kt : ¬ v5 = 0 → SW sc m_X10_classes (d + 1) rc rs 15 [some (.ref r0), some (.int l1), some (.int l2), none, none] [.ref r0] g5 P) (kf : v5 = 0 → SW sc m_X10_classes (d + 1) rc rs 11 [some (.ref r0), some (.int l1), some (.int l2), none, none] [.ref r0] g5 P) : SW sc m_X10_classes (d + 1) rc rs 0 [some (.ref r0), some (.int l1), some (.int l2), none, none] [] h P := by
  refine sw_aload_n dX10_classes_0 rfl ?_
  refine sw_iload_n dX10_classes_1 rfl ?_
  refine sw_iconst (v := 1) dX10_classes_2 (by decide) ?_
  refine sw_bipush (v := 10) dX10_classes_3 (by decide) ?_
  refine sw_cS (M := m_X10_classes) dX10_classes_5 ls_X10_153 hm5 rfl rfl (Nat.le_of_ble_eq_true rfl) (fun _ _ => rfl) rfl ?_
  show SW sc m_X10_classes _ _ _ 8 [some (.ref r0), some (.int l1), some (.int l2), none, none] [.int v5, .ref r0] g5 P
  exact sw_if_ne dX10_classes_8 (by decide) (fun q => (kt q)) (fun q => (kf q))
theorem b_X10_classes_11 {r0 : Nat} {l1 : Int32} {l2 : Int32} {q0 : Nat} (k : SW sc m_X10_classes d rc rs 16 [some (.ref r0), some (.int l1), some (.int l2), none, none] [.int 1, .ref q0] h P) : SW sc m_X10_classes d rc rs 11 [some (.ref r0), some (.int l1), some (.int l2), none, none] [.ref q0] h P := by
  refine sw_iconst (v := 1) dX10_classes_11 (by decide) ?_
  exact sw_goto dX10_classes_12 (by decide) (k)
theorem b_X10_classes_15 {r0 : Nat} {l1 : Int32} {l2 : Int32} {q0 : Nat} (k : SW sc m_X10_classes d rc rs 16 [some (.ref r0), some (.int l1), some (.int l2), none, none] [.int 0, .ref q0] h P) : SW sc m_X10_classes d rc rs 15 [some (.ref r0), some (.int l1), some (.int l2), none, none] [.ref q0] h P := by
  refine sw_iconst (v := 0) dX10_classes_15 (by decide) ?_
  exact (k)
theorem b_X10_classes_16 {r0 : Nat} {l1 : Int32} {l2 : Int32} {q0 : Nat} {s1 : Int32} {v2 : Int32} {g2 : ab_H} {fs2 : List Value} (hr2 : (h)[q0]? = some (10, fs2)) (hm2 : MSE m_X10_fails d [.ref q0, .int s1, .int 0] h (some (.int v2)) g2) (kt : v2 = 0 → SW sc m_X10_classes (d + 1) rc rs 25 [some (.ref r0), some (.int l1), some (.int l2), none, none] [] g2 P) (kf : ¬ (v2 = 0) → SW sc m_X10_classes (d + 1) rc rs 23 [none, none, none, none, none] [] g2 P) : SW sc m_X10_classes (d + 1) rc rs 16 [some (.ref r0), some (.int l1), some (.int l2), none, none] [.int s1, .ref q0] h P := by
  refine sw_iconst (v := 0) dX10_classes_16 (by decide) ?_
  refine sw_cV (M := m_X10_classes) dX10_classes_17 lv_X10_286 hm2 hr2 rfl (by decide) rfl rfl rfl (Nat.le_of_ble_eq_true rfl) (fun _ _ => rfl) rfl ?_
  show SW sc m_X10_classes _ _ _ 20 [some (.ref r0), some (.int l1), some (.int l2), none, none] [.int v2] g2 P
  exact sw_if_eq dX10_classes_20 (by decide) (fun q => (kt q)) (fun q => (sw_fg [true, true, true, false, false] rfl (kf q)))
theorem b_X10_classes_23  (hP : P (.inl (some (.int 0))) h) : SW sc m_X10_classes d rc rs 23 [none, none, none, none, none] [] h P := by
  refine sw_iconst (v := 0) dX10_classes_23 (by decide) ?_
  exact sw_ret (v := (some (.int 0))) dX10_classes_24 rt_i hP
theorem b_X10_classes_25 {r0 : Nat} {l1 : Int32} {l2 : Int32} {g2 : ab_H} {fs2 : List Value} (hr2 : (h)[r0]? = some (10, fs2)) (hm2 : MSE m_X10_laysRooted d [.ref r0] h none g2) (kt : l2 = 0 → SW sc m_X10_classes (d + 1) rc rs 40 [some (.ref r0), some (.int l1), none, none, none] [] g2 P) (kf : ¬ (l2 = 0) → SW sc m_X10_classes (d + 1) rc rs 33 [some (.ref r0), some (.int l1), none, none, none] [] g2 P) : SW sc m_X10_classes (d + 1) rc rs 25 [some (.ref r0), some (.int l1), some (.int l2), none, none] [] h P := by
  refine sw_aload_n dX10_classes_25 rfl ?_
  refine sw_cV (M := m_X10_classes) dX10_classes_26 lv_X10_337 hm2 hr2 rfl (by decide) rfl rfl rfl (Nat.le_of_ble_eq_true rfl) (fun _ _ => rfl) rfl ?_
  show SW sc m_X10_classes _ _ _ 29 [some (.ref r0), some (.int l1), some (.int l2), none, none] [] g2 P
  refine sw_iload_n dX10_classes_29 rfl ?_
  exact sw_if_eq dX10_classes_30 (by decide) (fun q => (sw_fg [false, false, true, false, false] rfl (kt q))) (fun q => (sw_fg [false, false, true, false, false] rfl (kf q)))
theorem b_X10_classes_33 {r0 : Nat} {l1 : Int32} {fs2 : List Value} {a2 : Nat} {vs4 : List Value} {x4 : Int32} (hc2 : (h)[r0]? = some (10, fs2)) (hv2 : fs2[25]? = some (.ref a2)) (hc4 : (h)[a2]? = some (100, vs4)) (ho4 : ¬ l1 < 0) (hi4 : vs4[l1.toNatClampNeg]? = some (.int x4)) (hP : P (.inl (some (.int x4))) h) : SW sc m_X10_classes d rc rs 33 [some (.ref r0), some (.int l1), none, none, none] [] h P := by
  refine sw_aload_n dX10_classes_33 rfl ?_
  refine sw_getf dX10_classes_34 lf_X10_50 hc2 hv2 ?_
  refine sw_iload_n dX10_classes_37 rfl ?_
  refine sw_iald dX10_classes_38 hc4 ho4 hi4 ?_
  exact sw_ret (v := (some (.int x4))) dX10_classes_39 rt_i hP
theorem b_X10_classes_40 {r0 : Nat} {l1 : Int32} (hz3 : ¬ (2 : Int32) = 0) (kt : ¬ (l1 - l1 / 2 * 2) = 0 → SW sc m_X10_classes d rc rs 58 [some (.ref r0), some (.int l1), none, none, none] [] h P) (kf : (l1 - l1 / 2 * 2) = 0 → SW sc m_X10_classes d rc rs 46 [some (.ref r0), some (.int l1), none, none, none] [] h P) : SW sc m_X10_classes d rc rs 40 [some (.ref r0), some (.int l1), none, none, none] [] h P := by
  refine sw_iload_n dX10_classes_40 rfl ?_
  refine sw_iconst (v := 2) dX10_classes_41 (by decide) ?_
  refine sw_irem dX10_classes_42 hz3 ?_
  exact sw_if_ne dX10_classes_43 (by decide) (fun q => (kt q)) (fun q => (kf q))
theorem b_X10_classes_46 {r0 : Nat} {l1 : Int32} {fs2 : List Value} {a2 : Nat} {vs6 : List Value} {x6 : Int32} (hc2 : (h)[r0]? = some (10, fs2)) (hv2 : fs2[25]? = some (.ref a2)) (hz5 : ¬ (2 : Int32) = 0) (hc6 : (h)[a2]? = some (100, vs6)) (ho6 : ¬ (l1 / 2) < 0) (hi6 : vs6[(l1 / 2).toNatClampNeg]? = some (.int x6)) (k : SW sc m_X10_classes d rc rs 59 [some (.ref r0), some (.int l1), none, none, none] [.int (-x6)] h P) : SW sc m_X10_classes d rc rs 46 [some (.ref r0), some (.int l1), none, none, none] [] h P := by
  refine sw_aload_n dX10_classes_46 rfl ?_
  refine sw_getf dX10_classes_47 lf_X10_50 hc2 hv2 ?_
  refine sw_iload_n dX10_classes_50 rfl ?_
  refine sw_iconst (v := 2) dX10_classes_51 (by decide) ?_
  refine sw_idiv dX10_classes_52 hz5 ?_
  refine sw_iald dX10_classes_53 hc6 ho6 hi6 ?_
  refine sw_ineg dX10_classes_54 ?_
  exact sw_goto dX10_classes_55 (by decide) (k)
theorem b_X10_classes_58 {r0 : Nat} {l1 : Int32} (k : SW sc m_X10_classes d rc rs 59 [some (.ref r0), some (.int l1), none, none, none] [.int 0] h P) : SW sc m_X10_classes d rc rs 58 [some (.ref r0), some (.int l1), none, none, none] [] h P := by
  refine sw_iconst (v := 0) dX10_classes_58 (by decide) ?_
  exact (k)
theorem b_X10_classes_59 {r0 : Nat} {l1 : Int32} {s0 : Int32} (k : SW sc m_X10_classes d rc rs 63 [some (.ref r0), some (.int l1), none, some (.int s0), some (.int 1)] [] h P) : SW sc m_X10_classes d rc rs 59 [some (.ref r0), some (.int l1), none, none, none] [.int s0] h P := by
  refine sw_istore_n dX10_classes_59 (by decide) rfl ?_
  show SW sc m_X10_classes _ _ _ 60 [some (.ref r0), some (.int l1), none, some (.int s0), none] [] h P
  refine sw_iconst (v := 1) dX10_classes_60 (by decide) ?_
  refine sw_istore dX10_classes_61 (by decide) rfl ?_
  show SW sc m_X10_classes _ _ _ 63 [some (.ref r0), some (.int l1), none, some (.int s0), some (.int 1)] [] h P
  exact (k)
theorem b_X10_classes_63 {r0 : Nat} {l1 : Int32} {l3 : Int32} {l4 : Int32} (kt : l1 ≤ l4 → SW sc m_X10_classes d rc rs 95 [some (.ref r0), some (.int l1), none, some (.int l3), none] [] h P) (kf : ¬ (l1 ≤ l4) → SW sc m_X10_classes d rc rs 69 [some (.ref r0), some (.int l1), none, some (.int l3), some (.int l4)] [] h P) : SW sc m_X10_classes d rc rs 63 [some (.ref r0), some (.int l1), none, some (.int l3), some (.int l4)] [] h P := by
  refine sw_iload dX10_classes_63 rfl ?_
  refine sw_iload_n dX10_classes_65 rfl ?_
  exact sw_icmp_ge dX10_classes_66 (by decide) (fun q => (sw_fg [false, false, false, false, true] rfl (kt q))) (fun q => (kf q))
theorem b_X10_classes_69 {r0 : Nat} {l1 : Int32} {l3 : Int32} {l4 : Int32} {fs3 : List Value} {a3 : Nat} {vs5 : List Value} {x5 : Int32} {fs7 : List Value} {a7 : Nat} {vs11 : List Value} {x11 : Int32} (hc3 : (h)[r0]? = some (10, fs3)) (hv3 : fs3[25]? = some (.ref a3)) (hc5 : (h)[a3]? = some (100, vs5)) (ho5 : ¬ l4 < 0) (hi5 : vs5[l4.toNatClampNeg]? = some (.int x5)) (hc7 : (h)[r0]? = some (10, fs7)) (hv7 : fs7[25]? = some (.ref a7)) (hc11 : (h)[a7]? = some (100, vs11)) (ho11 : ¬ (l1 - l4) < 0) (hi11 : vs11[(l1 - l4).toNatClampNeg]? = some (.int x11)) (k : SW sc m_X10_classes d rc rs 63 [some (.ref r0), some (.int l1), none, some (.int (l3 + (x5 * x11))), some (.int (l4 + 1))] [] h P) : SW sc m_X10_classes d rc rs 69 [some (.ref r0), some (.int l1), none, some (.int l3), some (.int l4)] [] h P := by
  refine sw_iload_n dX10_classes_69 rfl ?_
  refine sw_aload_n dX10_classes_70 rfl ?_
  refine sw_getf dX10_classes_71 lf_X10_50 hc3 hv3 ?_
  refine sw_iload dX10_classes_74 rfl ?_
  refine sw_iald dX10_classes_76 hc5 ho5 hi5 ?_
  refine sw_aload_n dX10_classes_77 rfl ?_
  refine sw_getf dX10_classes_78 lf_X10_50 hc7 hv7 ?_
  refine sw_iload_n dX10_classes_81 rfl ?_
  refine sw_iload dX10_classes_82 rfl ?_
  refine sw_isub dX10_classes_84 ?_
  refine sw_iald dX10_classes_85 hc11 ho11 hi11 ?_
  refine sw_imul dX10_classes_86 ?_
  refine sw_iadd dX10_classes_87 ?_
  refine sw_istore_n dX10_classes_88 (by decide) rfl ?_
  show SW sc m_X10_classes _ _ _ 89 [some (.ref r0), some (.int l1), none, some (.int (l3 + (x5 * x11))), some (.int l4)] [] h P
  refine sw_iinc (v := l4 + 1) dX10_classes_89 rfl rfl (by decide) rfl ?_
  show SW sc m_X10_classes _ _ _ 92 [some (.ref r0), some (.int l1), none, some (.int (l3 + (x5 * x11))), some (.int (l4 + 1))] [] h P
  exact sw_goto dX10_classes_92 (by decide) (k)
theorem b_X10_classes_95 {r0 : Nat} {l1 : Int32} {l3 : Int32} {fs2 : List Value} {a2 : Nat} {vs4 : List Value} {x4 : Int32} (hc2 : (h)[r0]? = some (10, fs2)) (hv2 : fs2[25]? = some (.ref a2)) (hc4 : (h)[a2]? = some (100, vs4)) (ho4 : ¬ l1 < 0) (hi4 : vs4[l1.toNatClampNeg]? = some (.int x4)) (hz7 : ¬ (2 : Int32) = 0) (hP : P (.inl (some (.int (x4 - (l3 / 2))))) h) : SW sc m_X10_classes d rc rs 95 [some (.ref r0), some (.int l1), none, some (.int l3), none] [] h P := by
  refine sw_aload_n dX10_classes_95 rfl ?_
  refine sw_getf dX10_classes_96 lf_X10_50 hc2 hv2 ?_
  refine sw_iload_n dX10_classes_99 rfl ?_
  refine sw_iald dX10_classes_100 hc4 ho4 hi4 ?_
  refine sw_iload_n dX10_classes_101 rfl ?_
  refine sw_iconst (v := 2) dX10_classes_102 (by decide) ?_
  refine sw_idiv dX10_classes_103 hz7 ?_
  refine sw_isub dX10_classes_104 ?_
  exact sw_ret (v := (some (.int (x4 - (l3 / 2))))) dX10_classes_105 rt_i hP
theorem b_X10_survey_0 {r0 : Nat} {l1 : Int32} {l2 : Int32} {v5 : Int32} {g5 : ab_H} (hm5 : MSE m_X10_isIn d [.int l1, .int 1, .int 6] h (some (.int v5)) g5) (kt : v5 = 0 → SW sc m_X10_survey (d + 1) rc rs 20 [some (.ref r0), some (.int l1), some (.int l2), none, none, none, none, none, none] [.ref r0] g5 P) (kf : ¬ (v5 = 0) → SW sc m_X10_survey (d + 1) rc rs 11 [some (.ref r0), some (.int l1), some (.int l2), none, none, none, none, none, none] [.ref r0] g5 P) : SW sc m_X10_survey (d + 1) rc rs 0 [some (.ref r0), some (.int l1), some (.int l2), none, none, none, none, none, none] [] h P := by
  refine sw_aload_n dX10_survey_0 rfl ?_
  refine sw_iload_n dX10_survey_1 rfl ?_
  refine sw_iconst (v := 1) dX10_survey_2 (by decide) ?_
  refine sw_bipush (v := 6) dX10_survey_3 (by decide) ?_
  refine sw_cS (M := m_X10_survey) dX10_survey_5 ls_X10_153 hm5 rfl rfl (Nat.le_of_ble_eq_true rfl) (fun _ _ => rfl) rfl ?_
  show SW sc m_X10_survey _ _ _ 8 [some (.ref r0), some (.int l1), some (.int l2), none, none, none, none, none, none] [.int v5, .ref r0] g5 P
  exact sw_if_eq dX10_survey_8 (by decide) (fun q => (kt q)) (fun q => (kf q))
theorem b_X10_survey_11 {r0 : Nat} {l1 : Int32} {l2 : Int32} {q0 : Nat} {v4 : Int32} {g4 : ab_H} (hm4 : MSE m_X10_isIn d [.int l2, .int 0, .int 2] h (some (.int v4)) g4) (kt : ¬ v4 = 0 → SW sc m_X10_survey (d + 1) rc rs 24 [some (.ref r0), some (.int l1), some (.int l2), none, none, none, none, none, none] [.ref q0] g4 P) (kf : v4 = 0 → SW sc m_X10_survey (d + 1) rc rs 20 [some (.ref r0), some (.int l1), some (.int l2), none, none, none, none, none, none] [.ref q0] g4 P) : SW sc m_X10_survey (d + 1) rc rs 11 [some (.ref r0), some (.int l1), some (.int l2), none, none, none, none, none, none] [.ref q0] h P := by
  refine sw_iload_n dX10_survey_11 rfl ?_
  refine sw_iconst (v := 0) dX10_survey_12 (by decide) ?_
  refine sw_iconst (v := 2) dX10_survey_13 (by decide) ?_
  refine sw_cS (M := m_X10_survey) dX10_survey_14 ls_X10_153 hm4 rfl rfl (Nat.le_of_ble_eq_true rfl) (fun _ _ => rfl) rfl ?_
  show SW sc m_X10_survey _ _ _ 17 [some (.ref r0), some (.int l1), some (.int l2), none, none, none, none, none, none] [.int v4, .ref q0] g4 P
  exact sw_if_ne dX10_survey_17 (by decide) (fun q => (kt q)) (fun q => (kf q))
theorem b_X10_survey_20 {r0 : Nat} {l1 : Int32} {l2 : Int32} {q0 : Nat} (k : SW sc m_X10_survey d rc rs 25 [some (.ref r0), some (.int l1), some (.int l2), none, none, none, none, none, none] [.int 1, .ref q0] h P) : SW sc m_X10_survey d rc rs 20 [some (.ref r0), some (.int l1), some (.int l2), none, none, none, none, none, none] [.ref q0] h P := by
  refine sw_iconst (v := 1) dX10_survey_20 (by decide) ?_
  exact sw_goto dX10_survey_21 (by decide) (k)
theorem b_X10_survey_24 {r0 : Nat} {l1 : Int32} {l2 : Int32} {q0 : Nat} (k : SW sc m_X10_survey d rc rs 25 [some (.ref r0), some (.int l1), some (.int l2), none, none, none, none, none, none] [.int 0, .ref q0] h P) : SW sc m_X10_survey d rc rs 24 [some (.ref r0), some (.int l1), some (.int l2), none, none, none, none, none, none] [.ref q0] h P := by
  refine sw_iconst (v := 0) dX10_survey_24 (by decide) ?_
  exact (k)
theorem b_X10_survey_25 {r0 : Nat} {l1 : Int32} {l2 : Int32} {q0 : Nat} {s1 : Int32} {v2 : Int32} {g2 : ab_H} {fs2 : List Value} (hr2 : (h)[q0]? = some (10, fs2)) (hm2 : MSE m_X10_fails d [.ref q0, .int s1, .int 0] h (some (.int v2)) g2) (kt : v2 = 0 → SW sc m_X10_survey (d + 1) rc rs 34 [some (.ref r0), some (.int l1), some (.int l2), none, none, none, none, none, none] [] g2 P) (kf : ¬ (v2 = 0) → SW sc m_X10_survey (d + 1) rc rs 32 [none, none, none, none, none, none, none, none, none] [] g2 P) : SW sc m_X10_survey (d + 1) rc rs 25 [some (.ref r0), some (.int l1), some (.int l2), none, none, none, none, none, none] [.int s1, .ref q0] h P := by
  refine sw_iconst (v := 0) dX10_survey_25 (by decide) ?_
  refine sw_cV (M := m_X10_survey) dX10_survey_26 lv_X10_286 hm2 hr2 rfl (by decide) rfl rfl rfl (Nat.le_of_ble_eq_true rfl) (fun _ _ => rfl) rfl ?_
  show SW sc m_X10_survey _ _ _ 29 [some (.ref r0), some (.int l1), some (.int l2), none, none, none, none, none, none] [.int v2] g2 P
  exact sw_if_eq dX10_survey_29 (by decide) (fun q => (kt q)) (fun q => (sw_fg [true, true, true, false, false, false, false, false, false] rfl (kf q)))
theorem b_X10_survey_32  (hP : P (.inl (some (.int 0))) h) : SW sc m_X10_survey d rc rs 32 [none, none, none, none, none, none, none, none, none] [] h P := by
  refine sw_iconst (v := 0) dX10_survey_32 (by decide) ?_
  exact sw_ret (v := (some (.int 0))) dX10_survey_33 rt_i hP
theorem b_X10_survey_34 {r0 : Nat} {l1 : Int32} {l2 : Int32} {fs9 : List Value} (hc9 : (h)[r0]? = some (10, fs9)) (hk9 : 9 < fs9.length) (hz9 : narrow .boolean (.int 1) = .int 1 ∧ fits .boolean (.int 1) = true) (k : SW sc m_X10_survey d rc rs 50 [some (.ref r0), some (.int l1), some (.int l2), some (.int 0), some (.int 0), some (.int 0), some (.int 0), none, none] [] ((h).set r0 (10, fs9.set 9 (.int 1))) P) : SW sc m_X10_survey d rc rs 34 [some (.ref r0), some (.int l1), some (.int l2), none, none, none, none, none, none] [] h P := by
  refine sw_iconst (v := 0) dX10_survey_34 (by decide) ?_
  refine sw_istore_n dX10_survey_35 (by decide) rfl ?_
  show SW sc m_X10_survey _ _ _ 36 [some (.ref r0), some (.int l1), some (.int l2), some (.int 0), none, none, none, none, none] [] h P
  refine sw_iconst (v := 0) dX10_survey_36 (by decide) ?_
  refine sw_istore dX10_survey_37 (by decide) rfl ?_
  show SW sc m_X10_survey _ _ _ 39 [some (.ref r0), some (.int l1), some (.int l2), some (.int 0), some (.int 0), none, none, none, none] [] h P
  refine sw_iconst (v := 0) dX10_survey_39 (by decide) ?_
  refine sw_istore dX10_survey_40 (by decide) rfl ?_
  show SW sc m_X10_survey _ _ _ 42 [some (.ref r0), some (.int l1), some (.int l2), some (.int 0), some (.int 0), some (.int 0), none, none, none] [] h P
  refine sw_aload_n dX10_survey_42 rfl ?_
  refine sw_iconst (v := 1) dX10_survey_43 (by decide) ?_
  refine sw_putf dX10_survey_44 lp_X10_56 hc9 hk9 (fun _ _ => hz9) ?_
  refine sw_iconst (v := 0) dX10_survey_47 (by decide) ?_
  refine sw_istore dX10_survey_48 (by decide) rfl ?_
  show SW sc m_X10_survey _ _ _ 50 [some (.ref r0), some (.int l1), some (.int l2), some (.int 0), some (.int 0), some (.int 0), some (.int 0), none, none] [] ((h).set r0 (10, fs9.set 9 (.int 1))) P
  exact (k)
theorem b_X10_survey_50 {r0 : Nat} {l1 : Int32} {l2 : Int32} {l3 : Int32} {l4 : Int32} {l5 : Int32} {l6 : Int32} {v3 : Int32} {g3 : ab_H} (hm3 : MSE m_X10_ranks d [.int l1] h (some (.int v3)) g3) (kt : v3 ≤ l6 → SW sc m_X10_survey (d + 1) rc rs 148 [some (.ref r0), none, some (.int l2), some (.int l3), some (.int l4), some (.int l5), none, none, none] [] g3 P) (kf : ¬ (v3 ≤ l6) → SW sc m_X10_survey (d + 1) rc rs 59 [some (.ref r0), some (.int l1), some (.int l2), some (.int l3), some (.int l4), some (.int l5), some (.int l6), none, none] [] g3 P) : SW sc m_X10_survey (d + 1) rc rs 50 [some (.ref r0), some (.int l1), some (.int l2), some (.int l3), some (.int l4), some (.int l5), some (.int l6), none, none] [] h P := by
  refine sw_iload dX10_survey_50 rfl ?_
  refine sw_iload_n dX10_survey_52 rfl ?_
  refine sw_cS (M := m_X10_survey) dX10_survey_53 ls_X10_340 hm3 rfl rfl (Nat.le_of_ble_eq_true rfl) (fun _ _ => rfl) rfl ?_
  show SW sc m_X10_survey _ _ _ 56 [some (.ref r0), some (.int l1), some (.int l2), some (.int l3), some (.int l4), some (.int l5), some (.int l6), none, none] [.int v3, .int l6] g3 P
  exact sw_icmp_ge dX10_survey_56 (by decide) (fun q => (sw_fg [false, true, false, false, false, false, true, false, false] rfl (kt q))) (fun q => (kf q))
theorem b_X10_survey_59 {r0 : Nat} {l1 : Int32} {l2 : Int32} {l3 : Int32} {l4 : Int32} {l5 : Int32} {l6 : Int32} {g4 : ab_H} {fs4 : List Value} {g7 : ab_H} {fs7 : List Value} {v17 : Int32} {g17 : ab_H} {fs17 : List Value} {fs21 : List Value} {a21 : Nat} {v25 : Int32} {g25 : ab_H} {fs25 : List Value} {vs26 : List Value} (hr4 : (h)[r0]? = some (10, fs4)) (hm4 : MSE m_X10_decodes d [.ref r0, .int l6, .int l1] h none g4) (hr7 : (g4)[r0]? = some (10, fs7)) (hm7 : MSE m_X10_grows d [.ref r0, .int l1] g4 none g7) (hr17 : (g7)[r0]? = some (10, fs17)) (hm17 : MSE m_X10_diameter d [.ref r0, .int ((1 <<< (l1 &&& 31)) - 1)] g7 (some (.int v17)) g17) (hc21 : (g17)[r0]? = some (10, fs21)) (hv21 : fs21[26]? = some (.ref a21)) (hr25 : (g17)[r0]? = some (10, fs25)) (hm25 : MSE m_X10_wordOfSet d [.ref r0, .int ((1 <<< (l1 &&& 31)) - 1)] g17 (some (.int v25)) g25) (hc26 : (g25)[a21]? = some (100, vs26)) (ho26 : ¬ l3 < 0) (hl26 : l3.toNatClampNeg < vs26.length) (k : SW sc m_X10_survey (d + 1) rc rs 104 [some (.ref r0), some (.int l1), some (.int l2), some (.int l3), some (.int l4), some (.int (l5 + v17)), some (.int l6), none, some (.int 0)] [] ((g25).set a21 (100, vs26.set l3.toNatClampNeg (.int v25))) P) : SW sc m_X10_survey (d + 1) rc rs 59 [some (.ref r0), some (.int l1), some (.int l2), some (.int l3), some (.int l4), some (.int l5), some (.int l6), none, none] [] h P := by
  refine sw_aload_n dX10_survey_59 rfl ?_
  refine sw_iload dX10_survey_60 rfl ?_
  refine sw_iload_n dX10_survey_62 rfl ?_
  refine sw_cV (M := m_X10_survey) dX10_survey_63 lv_X10_343 hm4 hr4 rfl (by decide) rfl rfl rfl (Nat.le_of_ble_eq_true rfl) (fun _ _ => rfl) rfl ?_
  show SW sc m_X10_survey _ _ _ 66 [some (.ref r0), some (.int l1), some (.int l2), some (.int l3), some (.int l4), some (.int l5), some (.int l6), none, none] [] g4 P
  refine sw_aload_n dX10_survey_66 rfl ?_
  refine sw_iload_n dX10_survey_67 rfl ?_
  refine sw_cV (M := m_X10_survey) dX10_survey_68 lv_X10_225 hm7 hr7 rfl (by decide) rfl rfl rfl (Nat.le_of_ble_eq_true rfl) (fun _ _ => rfl) rfl ?_
  show SW sc m_X10_survey _ _ _ 71 [some (.ref r0), some (.int l1), some (.int l2), some (.int l3), some (.int l4), some (.int l5), some (.int l6), none, none] [] g7 P
  refine sw_iconst (v := 1) dX10_survey_71 (by decide) ?_
  refine sw_iload_n dX10_survey_72 rfl ?_
  refine sw_ishl dX10_survey_73 ?_
  refine sw_iconst (v := 1) dX10_survey_74 (by decide) ?_
  refine sw_isub dX10_survey_75 ?_
  refine sw_istore dX10_survey_76 (by decide) rfl ?_
  show SW sc m_X10_survey _ _ _ 78 [some (.ref r0), some (.int l1), some (.int l2), some (.int l3), some (.int l4), some (.int l5), some (.int l6), some (.int ((1 <<< (l1 &&& 31)) - 1)), none] [] g7 P
  refine sw_iload dX10_survey_78 rfl ?_
  refine sw_aload_n dX10_survey_80 rfl ?_
  refine sw_iload dX10_survey_81 rfl ?_
  refine sw_cV (M := m_X10_survey) dX10_survey_83 lv_X10_298 hm17 hr17 rfl (by decide) rfl rfl rfl (Nat.le_of_ble_eq_true rfl) (fun _ _ => rfl) rfl ?_
  show SW sc m_X10_survey _ _ _ 86 [some (.ref r0), some (.int l1), some (.int l2), some (.int l3), some (.int l4), some (.int l5), some (.int l6), some (.int ((1 <<< (l1 &&& 31)) - 1)), none] [.int v17, .int l5] g17 P
  refine sw_iadd dX10_survey_86 ?_
  refine sw_istore dX10_survey_87 (by decide) rfl ?_
  show SW sc m_X10_survey _ _ _ 89 [some (.ref r0), some (.int l1), some (.int l2), some (.int l3), some (.int l4), some (.int (l5 + v17)), some (.int l6), some (.int ((1 <<< (l1 &&& 31)) - 1)), none] [] g17 P
  refine sw_aload_n dX10_survey_89 rfl ?_
  refine sw_getf dX10_survey_90 lf_X10_53 hc21 hv21 ?_
  refine sw_iload_n dX10_survey_93 rfl ?_
  refine sw_aload_n dX10_survey_94 rfl ?_
  refine sw_iload dX10_survey_95 rfl ?_
  refine sw_cV (M := m_X10_survey) dX10_survey_97 lv_X10_136 hm25 hr25 rfl (by decide) rfl rfl rfl (Nat.le_of_ble_eq_true rfl) (fun _ _ => rfl) rfl ?_
  show SW sc m_X10_survey _ _ _ 100 [some (.ref r0), some (.int l1), some (.int l2), some (.int l3), some (.int l4), some (.int (l5 + v17)), some (.int l6), some (.int ((1 <<< (l1 &&& 31)) - 1)), none] [.int v25, .int l3, .ref a21] g25 P
  refine sw_iast dX10_survey_100 hc26 ho26 hl26 ?_
  refine sw_iconst (v := 0) dX10_survey_101 (by decide) ?_
  refine sw_istore dX10_survey_102 (by decide) rfl ?_
  show SW sc m_X10_survey _ _ _ 104 [some (.ref r0), some (.int l1), some (.int l2), some (.int l3), some (.int l4), some (.int (l5 + v17)), some (.int l6), some (.int ((1 <<< (l1 &&& 31)) - 1)), some (.int 0)] [] ((g25).set a21 (100, vs26.set l3.toNatClampNeg (.int v25))) P
  exact (sw_fg [false, false, false, false, false, false, false, true, false] rfl (k))
theorem b_X10_survey_104 {r0 : Nat} {l1 : Int32} {l2 : Int32} {l3 : Int32} {l4 : Int32} {l5 : Int32} {l6 : Int32} {l8 : Int32} {fs2 : List Value} {a2 : Nat} {vs4 : List Value} {x4 : Int32} {fs6 : List Value} {a6 : Nat} {vs8 : List Value} {x8 : Int32} (hc2 : (h)[r0]? = some (10, fs2)) (hv2 : fs2[26]? = some (.ref a2)) (hc4 : (h)[a2]? = some (100, vs4)) (ho4 : ¬ l8 < 0) (hi4 : vs4[l8.toNatClampNeg]? = some (.int x4)) (hc6 : (h)[r0]? = some (10, fs6)) (hv6 : fs6[26]? = some (.ref a6)) (hc8 : (h)[a6]? = some (100, vs8)) (ho8 : ¬ l3 < 0) (hi8 : vs8[l3.toNatClampNeg]? = some (.int x8)) (kt : x4 = x8 → SW sc m_X10_survey d rc rs 126 [some (.ref r0), some (.int l1), some (.int l2), some (.int l3), some (.int l4), some (.int l5), some (.int l6), none, some (.int l8)] [] h P) (kf : ¬ (x4 = x8) → SW sc m_X10_survey d rc rs 120 [some (.ref r0), some (.int l1), some (.int l2), some (.int l3), some (.int l4), some (.int l5), some (.int l6), none, some (.int l8)] [] h P) : SW sc m_X10_survey d rc rs 104 [some (.ref r0), some (.int l1), some (.int l2), some (.int l3), some (.int l4), some (.int l5), some (.int l6), none, some (.int l8)] [] h P := by
  refine sw_aload_n dX10_survey_104 rfl ?_
  refine sw_getf dX10_survey_105 lf_X10_53 hc2 hv2 ?_
  refine sw_iload dX10_survey_108 rfl ?_
  refine sw_iald dX10_survey_110 hc4 ho4 hi4 ?_
  refine sw_aload_n dX10_survey_111 rfl ?_
  refine sw_getf dX10_survey_112 lf_X10_53 hc6 hv6 ?_
  refine sw_iload_n dX10_survey_115 rfl ?_
  refine sw_iald dX10_survey_116 hc8 ho8 hi8 ?_
  exact sw_icmp_eq dX10_survey_117 (by decide) (fun q => (kt q)) (fun q => (kf q))
theorem b_X10_survey_120 {r0 : Nat} {l1 : Int32} {l2 : Int32} {l3 : Int32} {l4 : Int32} {l5 : Int32} {l6 : Int32} {l8 : Int32} (k : SW sc m_X10_survey d rc rs 104 [some (.ref r0), some (.int l1), some (.int l2), some (.int l3), some (.int l4), some (.int l5), some (.int l6), none, some (.int (l8 + 1))] [] h P) : SW sc m_X10_survey d rc rs 120 [some (.ref r0), some (.int l1), some (.int l2), some (.int l3), some (.int l4), some (.int l5), some (.int l6), none, some (.int l8)] [] h P := by
  refine sw_iinc (v := l8 + 1) dX10_survey_120 rfl rfl (by decide) rfl ?_
  show SW sc m_X10_survey _ _ _ 123 [some (.ref r0), some (.int l1), some (.int l2), some (.int l3), some (.int l4), some (.int l5), some (.int l6), none, some (.int (l8 + 1))] [] h P
  exact sw_goto dX10_survey_123 (by decide) (k)
theorem b_X10_survey_126 {r0 : Nat} {l1 : Int32} {l2 : Int32} {l3 : Int32} {l4 : Int32} {l5 : Int32} {l6 : Int32} {l8 : Int32} (kt : l3 ≤ l8 → SW sc m_X10_survey d rc rs 135 [some (.ref r0), some (.int l1), some (.int l2), some (.int l3), none, some (.int l5), some (.int l6), none, none] [] h P) (kf : ¬ (l3 ≤ l8) → SW sc m_X10_survey d rc rs 132 [some (.ref r0), some (.int l1), some (.int l2), some (.int l3), some (.int l4), some (.int l5), some (.int l6), none, none] [] h P) : SW sc m_X10_survey d rc rs 126 [some (.ref r0), some (.int l1), some (.int l2), some (.int l3), some (.int l4), some (.int l5), some (.int l6), none, some (.int l8)] [] h P := by
  refine sw_iload dX10_survey_126 rfl ?_
  refine sw_iload_n dX10_survey_128 rfl ?_
  exact sw_icmp_ge dX10_survey_129 (by decide) (fun q => (sw_fg [false, false, false, false, true, false, false, false, true] rfl (kt q))) (fun q => (sw_fg [false, false, false, false, false, false, false, false, true] rfl (kf q)))
theorem b_X10_survey_132 {r0 : Nat} {l1 : Int32} {l2 : Int32} {l3 : Int32} {l4 : Int32} {l5 : Int32} {l6 : Int32} (k : SW sc m_X10_survey d rc rs 142 [some (.ref r0), some (.int l1), some (.int l2), some (.int l3), some (.int l4), some (.int l5), some (.int l6), none, none] [] h P) : SW sc m_X10_survey d rc rs 132 [some (.ref r0), some (.int l1), some (.int l2), some (.int l3), some (.int l4), some (.int l5), some (.int l6), none, none] [] h P := by
  exact sw_goto dX10_survey_132 (by decide) (k)
theorem b_X10_survey_135 {r0 : Nat} {l1 : Int32} {l2 : Int32} {l3 : Int32} {l5 : Int32} {l6 : Int32} (k : SW sc m_X10_survey d rc rs 142 [some (.ref r0), some (.int l1), some (.int l2), some (.int (l3 + 1)), some (.int l6), some (.int l5), some (.int l6), none, none] [] h P) : SW sc m_X10_survey d rc rs 135 [some (.ref r0), some (.int l1), some (.int l2), some (.int l3), none, some (.int l5), some (.int l6), none, none] [] h P := by
  refine sw_iinc (v := l3 + 1) dX10_survey_135 rfl rfl (by decide) rfl ?_
  show SW sc m_X10_survey _ _ _ 138 [some (.ref r0), some (.int l1), some (.int l2), some (.int (l3 + 1)), none, some (.int l5), some (.int l6), none, none] [] h P
  refine sw_iload dX10_survey_138 rfl ?_
  refine sw_istore dX10_survey_140 (by decide) rfl ?_
  show SW sc m_X10_survey _ _ _ 142 [some (.ref r0), some (.int l1), some (.int l2), some (.int (l3 + 1)), some (.int l6), some (.int l5), some (.int l6), none, none] [] h P
  exact (k)
theorem b_X10_survey_142 {r0 : Nat} {l1 : Int32} {l2 : Int32} {l3 : Int32} {l4 : Int32} {l5 : Int32} {l6 : Int32} (k : SW sc m_X10_survey d rc rs 50 [some (.ref r0), some (.int l1), some (.int l2), some (.int l3), some (.int l4), some (.int l5), some (.int (l6 + 1)), none, none] [] h P) : SW sc m_X10_survey d rc rs 142 [some (.ref r0), some (.int l1), some (.int l2), some (.int l3), some (.int l4), some (.int l5), some (.int l6), none, none] [] h P := by
  refine sw_iinc (v := l6 + 1) dX10_survey_142 rfl rfl (by decide) rfl ?_
  show SW sc m_X10_survey _ _ _ 145 [some (.ref r0), some (.int l1), some (.int l2), some (.int l3), some (.int l4), some (.int l5), some (.int (l6 + 1)), none, none] [] h P
  exact sw_goto dX10_survey_145 (by decide) (k)
theorem b_X10_survey_148 {r0 : Nat} {l2 : Int32} {l3 : Int32} {l4 : Int32} {l5 : Int32} {fs3 : List Value} (hc3 : (h)[r0]? = some (10, fs3)) (hk3 : 9 < fs3.length) (hz3 : narrow .boolean (.int 0) = .int 0 ∧ fits .boolean (.int 0) = true) (kt : ¬ l2 = 0 → SW sc m_X10_survey d rc rs 161 [none, none, some (.int l2), none, some (.int l4), some (.int l5), none, none, none] [] ((h).set r0 (10, fs3.set 9 (.int 0))) P) (kf : l2 = 0 → SW sc m_X10_survey d rc rs 157 [none, none, none, some (.int l3), none, none, none, none, none] [] ((h).set r0 (10, fs3.set 9 (.int 0))) P) : SW sc m_X10_survey d rc rs 148 [some (.ref r0), none, some (.int l2), some (.int l3), some (.int l4), some (.int l5), none, none, none] [] h P := by
  refine sw_aload_n dX10_survey_148 rfl ?_
  refine sw_iconst (v := 0) dX10_survey_149 (by decide) ?_
  refine sw_putf dX10_survey_150 lp_X10_56 hc3 hk3 (fun _ _ => hz3) ?_
  refine sw_iload_n dX10_survey_153 rfl ?_
  exact sw_if_ne dX10_survey_154 (by decide) (fun q => (sw_fg [true, false, false, true, false, false, false, false, false] rfl (kt q))) (fun q => (sw_fg [true, false, true, false, true, true, false, false, false] rfl (kf q)))
theorem b_X10_survey_157 {l3 : Int32} (k : SW sc m_X10_survey d rc rs 173 [none, none, none, none, none, none, none, none, none] [.int l3] h P) : SW sc m_X10_survey d rc rs 157 [none, none, none, some (.int l3), none, none, none, none, none] [] h P := by
  refine sw_iload_n dX10_survey_157 rfl ?_
  exact sw_goto dX10_survey_158 (by decide) (sw_fg [false, false, false, true, false, false, false, false, false] rfl (k))
theorem b_X10_survey_161 {l2 : Int32} {l4 : Int32} {l5 : Int32} (kt : ¬ l2 = 1 → SW sc m_X10_survey d rc rs 171 [none, none, none, none, none, some (.int l5), none, none, none] [] h P) (kf : l2 = 1 → SW sc m_X10_survey d rc rs 166 [none, none, none, none, some (.int l4), none, none, none, none] [] h P) : SW sc m_X10_survey d rc rs 161 [none, none, some (.int l2), none, some (.int l4), some (.int l5), none, none, none] [] h P := by
  refine sw_iload_n dX10_survey_161 rfl ?_
  refine sw_iconst (v := 1) dX10_survey_162 (by decide) ?_
  exact sw_icmp_ne dX10_survey_163 (by decide) (fun q => (sw_fg [false, false, true, false, true, false, false, false, false] rfl (kt q))) (fun q => (sw_fg [false, false, true, false, false, true, false, false, false] rfl (kf q)))
theorem b_X10_survey_166 {l4 : Int32} (k : SW sc m_X10_survey d rc rs 173 [none, none, none, none, none, none, none, none, none] [.int l4] h P) : SW sc m_X10_survey d rc rs 166 [none, none, none, none, some (.int l4), none, none, none, none] [] h P := by
  refine sw_iload dX10_survey_166 rfl ?_
  exact sw_goto dX10_survey_168 (by decide) (sw_fg [false, false, false, false, true, false, false, false, false] rfl (k))
theorem b_X10_survey_171 {l5 : Int32} (k : SW sc m_X10_survey d rc rs 173 [none, none, none, none, none, none, none, none, none] [.int l5] h P) : SW sc m_X10_survey d rc rs 171 [none, none, none, none, none, some (.int l5), none, none, none] [] h P := by
  refine sw_iload dX10_survey_171 rfl ?_
  exact (sw_fg [false, false, false, false, false, true, false, false, false] rfl (k))
theorem b_X10_survey_173 {s0 : Int32} (hP : P (.inl (some (.int s0))) h) : SW sc m_X10_survey d rc rs 173 [none, none, none, none, none, none, none, none, none] [.int s0] h P := by
  exact sw_ret (v := (some (.int s0))) dX10_survey_173 rt_i hP
theorem b_X10_counts_0 {r0 : Nat} {l1 : Int32} {l2 : Int32} {fs2 : List Value} {a2 : Nat} {vs5 : List Value} {x5 : Int32} {vs8 : List Value} (hc2 : (h)[r0]? = some (10, fs2)) (hv2 : fs2[5]? = some (.ref a2)) (hc5 : (h)[a2]? = some (100, vs5)) (ho5 : ¬ l1 < 0) (hi5 : vs5[l1.toNatClampNeg]? = some (.int x5)) (hc8 : (h)[a2]? = some (100, vs8)) (ho8 : ¬ l1 < 0) (hl8 : l1.toNatClampNeg < vs8.length) (hP : P (.inl (some (.int l2))) ((h).set a2 (100, vs8.set l1.toNatClampNeg (.int (x5 + 1))))) : SW sc m_X10_counts d rc rs 0 [some (.ref r0), some (.int l1), some (.int l2)] [] h P := by
  refine sw_aload_n dX10_counts_0 rfl ?_
  refine sw_getf dX10_counts_1 lf_X10_32 hc2 hv2 ?_
  refine sw_iload_n dX10_counts_4 rfl ?_
  refine sw_dup2 dX10_counts_5 (fun _ _ => rfl) (fun _ _ => rfl) ?_
  refine sw_iald dX10_counts_6 hc5 ho5 hi5 ?_
  refine sw_iconst (v := 1) dX10_counts_7 (by decide) ?_
  refine sw_iadd dX10_counts_8 ?_
  refine sw_iast dX10_counts_9 hc8 ho8 hl8 ?_
  refine sw_iload_n dX10_counts_10 rfl ?_
  exact sw_ret (v := (some (.int l2))) dX10_counts_11 rt_i hP
theorem b_X10_link_0 {r0 : Nat} {l1 : Int32} {l2 : Int32} {v4 : Int32} {g4 : ab_H} {fs4 : List Value} (hr4 : (h)[r0]? = some (10, fs4)) (hm4 : MSE m_X10_isVertex d [.ref r0, .int l1] h (some (.int v4)) g4) (kt : v4 = 0 → SW sc m_X10_link (d + 1) rc rs 17 [some (.ref r0), some (.int l1), some (.int l2), none] [.ref r0] g4 P) (kf : ¬ (v4 = 0) → SW sc m_X10_link (d + 1) rc rs 9 [some (.ref r0), some (.int l1), some (.int l2), none] [.ref r0] g4 P) : SW sc m_X10_link (d + 1) rc rs 0 [some (.ref r0), some (.int l1), some (.int l2), none] [] h P := by
  refine sw_aload_n dX10_link_0 rfl ?_
  refine sw_aload_n dX10_link_1 rfl ?_
  refine sw_iload_n dX10_link_2 rfl ?_
  refine sw_cV (M := m_X10_link) dX10_link_3 lv_X10_283 hm4 hr4 rfl (by decide) rfl rfl rfl (Nat.le_of_ble_eq_true rfl) (fun _ _ => rfl) rfl ?_
  show SW sc m_X10_link _ _ _ 6 [some (.ref r0), some (.int l1), some (.int l2), none] [.int v4, .ref r0] g4 P
  exact sw_if_eq dX10_link_6 (by decide) (fun q => (kt q)) (fun q => (kf q))
theorem b_X10_link_9 {r0 : Nat} {l1 : Int32} {l2 : Int32} {q0 : Nat} {v3 : Int32} {g3 : ab_H} {fs3 : List Value} (hr3 : (h)[r0]? = some (10, fs3)) (hm3 : MSE m_X10_isVertex d [.ref r0, .int l2] h (some (.int v3)) g3) (kt : ¬ v3 = 0 → SW sc m_X10_link (d + 1) rc rs 21 [some (.ref r0), some (.int l1), some (.int l2), none] [.ref q0] g3 P) (kf : v3 = 0 → SW sc m_X10_link (d + 1) rc rs 17 [some (.ref r0), some (.int l1), some (.int l2), none] [.ref q0] g3 P) : SW sc m_X10_link (d + 1) rc rs 9 [some (.ref r0), some (.int l1), some (.int l2), none] [.ref q0] h P := by
  refine sw_aload_n dX10_link_9 rfl ?_
  refine sw_iload_n dX10_link_10 rfl ?_
  refine sw_cV (M := m_X10_link) dX10_link_11 lv_X10_283 hm3 hr3 rfl (by decide) rfl rfl rfl (Nat.le_of_ble_eq_true rfl) (fun _ _ => rfl) rfl ?_
  show SW sc m_X10_link _ _ _ 14 [some (.ref r0), some (.int l1), some (.int l2), none] [.int v3, .ref q0] g3 P
  exact sw_if_ne dX10_link_14 (by decide) (fun q => (kt q)) (fun q => (kf q))
theorem b_X10_link_17 {r0 : Nat} {l1 : Int32} {l2 : Int32} {q0 : Nat} (k : SW sc m_X10_link d rc rs 22 [some (.ref r0), some (.int l1), some (.int l2), none] [.int 1, .ref q0] h P) : SW sc m_X10_link d rc rs 17 [some (.ref r0), some (.int l1), some (.int l2), none] [.ref q0] h P := by
  refine sw_iconst (v := 1) dX10_link_17 (by decide) ?_
  exact sw_goto dX10_link_18 (by decide) (k)
theorem b_X10_link_21 {r0 : Nat} {l1 : Int32} {l2 : Int32} {q0 : Nat} (k : SW sc m_X10_link d rc rs 22 [some (.ref r0), some (.int l1), some (.int l2), none] [.int 0, .ref q0] h P) : SW sc m_X10_link d rc rs 21 [some (.ref r0), some (.int l1), some (.int l2), none] [.ref q0] h P := by
  refine sw_iconst (v := 0) dX10_link_21 (by decide) ?_
  exact (k)
theorem b_X10_link_22 {r0 : Nat} {l1 : Int32} {l2 : Int32} {q0 : Nat} {s1 : Int32} {v2 : Int32} {g2 : ab_H} {fs2 : List Value} (hr2 : (h)[q0]? = some (10, fs2)) (hm2 : MSE m_X10_fails d [.ref q0, .int s1, .int 0] h (some (.int v2)) g2) (kt : v2 = 0 → SW sc m_X10_link (d + 1) rc rs 31 [some (.ref r0), some (.int l1), some (.int l2), none] [] g2 P) (kf : ¬ (v2 = 0) → SW sc m_X10_link (d + 1) rc rs 29 [none, none, none, none] [] g2 P) : SW sc m_X10_link (d + 1) rc rs 22 [some (.ref r0), some (.int l1), some (.int l2), none] [.int s1, .ref q0] h P := by
  refine sw_iconst (v := 0) dX10_link_22 (by decide) ?_
  refine sw_cV (M := m_X10_link) dX10_link_23 lv_X10_286 hm2 hr2 rfl (by decide) rfl rfl rfl (Nat.le_of_ble_eq_true rfl) (fun _ _ => rfl) rfl ?_
  show SW sc m_X10_link _ _ _ 26 [some (.ref r0), some (.int l1), some (.int l2), none] [.int v2] g2 P
  exact sw_if_eq dX10_link_26 (by decide) (fun q => (kt q)) (fun q => (sw_fg [true, true, true, false] rfl (kf q)))
theorem b_X10_link_29  (hP : P (.inl (some (.int 0))) h) : SW sc m_X10_link d rc rs 29 [none, none, none, none] [] h P := by
  refine sw_iconst (v := 0) dX10_link_29 (by decide) ?_
  exact sw_ret (v := (some (.int 0))) dX10_link_30 rt_i hP
theorem b_X10_link_31 {r0 : Nat} {l1 : Int32} {l2 : Int32} (kt : ¬ l1 = l2 → SW sc m_X10_link d rc rs 40 [some (.ref r0), some (.int l1), some (.int l2), none] [] h P) (kf : l1 = l2 → SW sc m_X10_link d rc rs 36 [some (.ref r0), some (.int l1), some (.int l2), none] [] h P) : SW sc m_X10_link d rc rs 31 [some (.ref r0), some (.int l1), some (.int l2), none] [] h P := by
  refine sw_iload_n dX10_link_31 rfl ?_
  refine sw_iload_n dX10_link_32 rfl ?_
  exact sw_icmp_ne dX10_link_33 (by decide) (fun q => (kt q)) (fun q => (kf q))
theorem b_X10_link_36 {r0 : Nat} {l1 : Int32} {l2 : Int32} (k : SW sc m_X10_link d rc rs 74 [some (.ref r0), some (.int l1), some (.int l2), none] [.int 1] h P) : SW sc m_X10_link d rc rs 36 [some (.ref r0), some (.int l1), some (.int l2), none] [] h P := by
  refine sw_iconst (v := 1) dX10_link_36 (by decide) ?_
  exact sw_goto dX10_link_37 (by decide) (k)
theorem b_X10_link_40 {r0 : Nat} {l1 : Int32} {l2 : Int32} {fs2 : List Value} {a2 : Nat} {vs4 : List Value} {x4 : Int32} {v6 : Int32} {g6 : ab_H} (hc2 : (h)[r0]? = some (10, fs2)) (hv2 : fs2[1]? = some (.ref a2)) (hc4 : (h)[a2]? = some (100, vs4)) (ho4 : ¬ l1 < 0) (hi4 : vs4[l1.toNatClampNeg]? = some (.int x4)) (hm6 : MSE m_X10_has d [.int x4, .int l2] h (some (.int v6)) g6) (kt : v6 = 0 → SW sc m_X10_link (d + 1) rc rs 57 [some (.ref r0), some (.int l1), some (.int l2), none] [] g6 P) (kf : ¬ (v6 = 0) → SW sc m_X10_link (d + 1) rc rs 53 [some (.ref r0), some (.int l1), some (.int l2), none] [] g6 P) : SW sc m_X10_link (d + 1) rc rs 40 [some (.ref r0), some (.int l1), some (.int l2), none] [] h P := by
  refine sw_aload_n dX10_link_40 rfl ?_
  refine sw_getf dX10_link_41 lf_X10_19 hc2 hv2 ?_
  refine sw_iload_n dX10_link_44 rfl ?_
  refine sw_iald dX10_link_45 hc4 ho4 hi4 ?_
  refine sw_iload_n dX10_link_46 rfl ?_
  refine sw_cS (M := m_X10_link) dX10_link_47 ls_X10_70 hm6 rfl rfl (Nat.le_of_ble_eq_true rfl) (fun _ _ => rfl) rfl ?_
  show SW sc m_X10_link _ _ _ 50 [some (.ref r0), some (.int l1), some (.int l2), none] [.int v6] g6 P
  exact sw_if_eq dX10_link_50 (by decide) (fun q => (kt q)) (fun q => (kf q))
theorem b_X10_link_53 {r0 : Nat} {l1 : Int32} {l2 : Int32} (k : SW sc m_X10_link d rc rs 74 [some (.ref r0), some (.int l1), some (.int l2), none] [.int 2] h P) : SW sc m_X10_link d rc rs 53 [some (.ref r0), some (.int l1), some (.int l2), none] [] h P := by
  refine sw_iconst (v := 2) dX10_link_53 (by decide) ?_
  exact sw_goto dX10_link_54 (by decide) (k)
theorem b_X10_link_57 {r0 : Nat} {l1 : Int32} {l2 : Int32} {v3 : Int32} {g3 : ab_H} {fs3 : List Value} {v5 : Int32} {g5 : ab_H} (hr3 : (h)[r0]? = some (10, fs3)) (hm3 : MSE m_X10_component d [.ref r0, .int l1] h (some (.int v3)) g3) (hm5 : MSE m_X10_has d [.int v3, .int l2] g3 (some (.int v5)) g5) (kt : v5 = 0 → SW sc m_X10_link (d + 1) rc rs 73 [some (.ref r0), some (.int l1), some (.int l2), none] [] g5 P) (kf : ¬ (v5 = 0) → SW sc m_X10_link (d + 1) rc rs 69 [some (.ref r0), some (.int l1), some (.int l2), none] [] g5 P) : SW sc m_X10_link (d + 1) rc rs 57 [some (.ref r0), some (.int l1), some (.int l2), none] [] h P := by
  refine sw_aload_n dX10_link_57 rfl ?_
  refine sw_iload_n dX10_link_58 rfl ?_
  refine sw_cV (M := m_X10_link) dX10_link_59 lv_X10_84 hm3 hr3 rfl (by decide) rfl rfl rfl (Nat.le_of_ble_eq_true rfl) (fun _ _ => rfl) rfl ?_
  show SW sc m_X10_link _ _ _ 62 [some (.ref r0), some (.int l1), some (.int l2), none] [.int v3] g3 P
  refine sw_iload_n dX10_link_62 rfl ?_
  refine sw_cS (M := m_X10_link) dX10_link_63 ls_X10_70 hm5 rfl rfl (Nat.le_of_ble_eq_true rfl) (fun _ _ => rfl) rfl ?_
  show SW sc m_X10_link _ _ _ 66 [some (.ref r0), some (.int l1), some (.int l2), none] [.int v5] g5 P
  exact sw_if_eq dX10_link_66 (by decide) (fun q => (kt q)) (fun q => (kf q))
theorem b_X10_link_69 {r0 : Nat} {l1 : Int32} {l2 : Int32} (k : SW sc m_X10_link d rc rs 74 [some (.ref r0), some (.int l1), some (.int l2), none] [.int 3] h P) : SW sc m_X10_link d rc rs 69 [some (.ref r0), some (.int l1), some (.int l2), none] [] h P := by
  refine sw_iconst (v := 3) dX10_link_69 (by decide) ?_
  exact sw_goto dX10_link_70 (by decide) (k)
theorem b_X10_link_73 {r0 : Nat} {l1 : Int32} {l2 : Int32} (k : SW sc m_X10_link d rc rs 74 [some (.ref r0), some (.int l1), some (.int l2), none] [.int 0] h P) : SW sc m_X10_link d rc rs 73 [some (.ref r0), some (.int l1), some (.int l2), none] [] h P := by
  refine sw_iconst (v := 0) dX10_link_73 (by decide) ?_
  exact (k)
theorem b_X10_link_74 {r0 : Nat} {l1 : Int32} {l2 : Int32} {s0 : Int32} (kt : s0 ≤ 0 → SW sc m_X10_link d rc rs 86 [some (.ref r0), some (.int l1), some (.int l2), none] [] h P) (kf : ¬ (s0 ≤ 0) → SW sc m_X10_link d rc rs 79 [some (.ref r0), none, none, some (.int s0)] [] h P) : SW sc m_X10_link d rc rs 74 [some (.ref r0), some (.int l1), some (.int l2), none] [.int s0] h P := by
  refine sw_istore_n dX10_link_74 (by decide) rfl ?_
  show SW sc m_X10_link _ _ _ 75 [some (.ref r0), some (.int l1), some (.int l2), some (.int s0)] [] h P
  refine sw_iload_n dX10_link_75 rfl ?_
  exact sw_if_le dX10_link_76 (by decide) (fun q => (sw_fg [false, false, false, true] rfl (kt q))) (fun q => (sw_fg [false, true, true, false] rfl (kf q)))
theorem b_X10_link_79 {r0 : Nat} {l3 : Int32} {v4 : Int32} {g4 : ab_H} {fs4 : List Value} (hr4 : (h)[r0]? = some (10, fs4)) (hm4 : MSE m_X10_counts d [.ref r0, .int 5, .int l3] h (some (.int v4)) g4) (hP : P (.inl (some (.int v4))) g4) : SW sc m_X10_link (d + 1) rc rs 79 [some (.ref r0), none, none, some (.int l3)] [] h P := by
  refine sw_aload_n dX10_link_79 rfl ?_
  refine sw_iconst (v := 5) dX10_link_80 (by decide) ?_
  refine sw_iload_n dX10_link_81 rfl ?_
  refine sw_cV (M := m_X10_link) dX10_link_82 lv_X10_347 hm4 hr4 rfl (by decide) rfl rfl rfl (Nat.le_of_ble_eq_true rfl) (fun _ _ => rfl) rfl ?_
  show SW sc m_X10_link _ _ _ 85 [some (.ref r0), none, none, some (.int l3)] [.int v4] g4 P
  exact sw_ret (v := (some (.int v4))) dX10_link_85 rt_i hP
theorem b_X10_link_86 {r0 : Nat} {l1 : Int32} {l2 : Int32} {g2 : ab_H} {fs2 : List Value} {fs4 : List Value} {a4 : Nat} {g7 : ab_H} {v11 : Int32} {g11 : ab_H} {fs11 : List Value} (hr2 : (h)[r0]? = some (10, fs2)) (hm2 : MSE m_X10_remembers d [.ref r0] h none g2) (hc4 : (g2)[r0]? = some (10, fs4)) (hv4 : fs4[1]? = some (.ref a4)) (hm7 : MSE m_X10_joins d [.ref a4, .int l1, .int l2] g2 none g7) (hr11 : (g7)[r0]? = some (10, fs11)) (hm11 : MSE m_X10_counts d [.ref r0, .int 0, .int 0] g7 (some (.int v11)) g11) (hP : P (.inl (some (.int v11))) g11) : SW sc m_X10_link (d + 1) rc rs 86 [some (.ref r0), some (.int l1), some (.int l2), none] [] h P := by
  refine sw_aload_n dX10_link_86 rfl ?_
  refine sw_cV (M := m_X10_link) dX10_link_87 lv_X10_350 hm2 hr2 rfl (by decide) rfl rfl rfl (Nat.le_of_ble_eq_true rfl) (fun _ _ => rfl) rfl ?_
  show SW sc m_X10_link _ _ _ 90 [some (.ref r0), some (.int l1), some (.int l2), none] [] g2 P
  refine sw_aload_n dX10_link_90 rfl ?_
  refine sw_getf dX10_link_91 lf_X10_19 hc4 hv4 ?_
  refine sw_iload_n dX10_link_94 rfl ?_
  refine sw_iload_n dX10_link_95 rfl ?_
  refine sw_cS (M := m_X10_link) dX10_link_96 ls_X10_205 hm7 rfl rfl (Nat.le_of_ble_eq_true rfl) (fun _ _ => rfl) rfl ?_
  show SW sc m_X10_link _ _ _ 99 [some (.ref r0), some (.int l1), some (.int l2), none] [] g7 P
  refine sw_aload_n dX10_link_99 rfl ?_
  refine sw_iconst (v := 0) dX10_link_100 (by decide) ?_
  refine sw_iconst (v := 0) dX10_link_101 (by decide) ?_
  refine sw_cV (M := m_X10_link) dX10_link_102 lv_X10_347 hm11 hr11 rfl (by decide) rfl rfl rfl (Nat.le_of_ble_eq_true rfl) (fun _ _ => rfl) rfl ?_
  show SW sc m_X10_link _ _ _ 105 [some (.ref r0), some (.int l1), some (.int l2), none] [.int v11] g11 P
  exact sw_ret (v := (some (.int v11))) dX10_link_105 rt_i hP
theorem b_X10_cut_0 {r0 : Nat} {l1 : Int32} {l2 : Int32} {v4 : Int32} {g4 : ab_H} {fs4 : List Value} (hr4 : (h)[r0]? = some (10, fs4)) (hm4 : MSE m_X10_isVertex d [.ref r0, .int l1] h (some (.int v4)) g4) (kt : v4 = 0 → SW sc m_X10_cut (d + 1) rc rs 17 [some (.ref r0), some (.int l1), some (.int l2), none] [.ref r0] g4 P) (kf : ¬ (v4 = 0) → SW sc m_X10_cut (d + 1) rc rs 9 [some (.ref r0), some (.int l1), some (.int l2), none] [.ref r0] g4 P) : SW sc m_X10_cut (d + 1) rc rs 0 [some (.ref r0), some (.int l1), some (.int l2), none] [] h P := by
  refine sw_aload_n dX10_cut_0 rfl ?_
  refine sw_aload_n dX10_cut_1 rfl ?_
  refine sw_iload_n dX10_cut_2 rfl ?_
  refine sw_cV (M := m_X10_cut) dX10_cut_3 lv_X10_283 hm4 hr4 rfl (by decide) rfl rfl rfl (Nat.le_of_ble_eq_true rfl) (fun _ _ => rfl) rfl ?_
  show SW sc m_X10_cut _ _ _ 6 [some (.ref r0), some (.int l1), some (.int l2), none] [.int v4, .ref r0] g4 P
  exact sw_if_eq dX10_cut_6 (by decide) (fun q => (kt q)) (fun q => (kf q))
theorem b_X10_cut_9 {r0 : Nat} {l1 : Int32} {l2 : Int32} {q0 : Nat} {v3 : Int32} {g3 : ab_H} {fs3 : List Value} (hr3 : (h)[r0]? = some (10, fs3)) (hm3 : MSE m_X10_isVertex d [.ref r0, .int l2] h (some (.int v3)) g3) (kt : ¬ v3 = 0 → SW sc m_X10_cut (d + 1) rc rs 21 [some (.ref r0), some (.int l1), some (.int l2), none] [.ref q0] g3 P) (kf : v3 = 0 → SW sc m_X10_cut (d + 1) rc rs 17 [some (.ref r0), some (.int l1), some (.int l2), none] [.ref q0] g3 P) : SW sc m_X10_cut (d + 1) rc rs 9 [some (.ref r0), some (.int l1), some (.int l2), none] [.ref q0] h P := by
  refine sw_aload_n dX10_cut_9 rfl ?_
  refine sw_iload_n dX10_cut_10 rfl ?_
  refine sw_cV (M := m_X10_cut) dX10_cut_11 lv_X10_283 hm3 hr3 rfl (by decide) rfl rfl rfl (Nat.le_of_ble_eq_true rfl) (fun _ _ => rfl) rfl ?_
  show SW sc m_X10_cut _ _ _ 14 [some (.ref r0), some (.int l1), some (.int l2), none] [.int v3, .ref q0] g3 P
  exact sw_if_ne dX10_cut_14 (by decide) (fun q => (kt q)) (fun q => (kf q))
theorem b_X10_cut_17 {r0 : Nat} {l1 : Int32} {l2 : Int32} {q0 : Nat} (k : SW sc m_X10_cut d rc rs 22 [some (.ref r0), some (.int l1), some (.int l2), none] [.int 1, .ref q0] h P) : SW sc m_X10_cut d rc rs 17 [some (.ref r0), some (.int l1), some (.int l2), none] [.ref q0] h P := by
  refine sw_iconst (v := 1) dX10_cut_17 (by decide) ?_
  exact sw_goto dX10_cut_18 (by decide) (k)
theorem b_X10_cut_21 {r0 : Nat} {l1 : Int32} {l2 : Int32} {q0 : Nat} (k : SW sc m_X10_cut d rc rs 22 [some (.ref r0), some (.int l1), some (.int l2), none] [.int 0, .ref q0] h P) : SW sc m_X10_cut d rc rs 21 [some (.ref r0), some (.int l1), some (.int l2), none] [.ref q0] h P := by
  refine sw_iconst (v := 0) dX10_cut_21 (by decide) ?_
  exact (k)
theorem b_X10_cut_22 {r0 : Nat} {l1 : Int32} {l2 : Int32} {q0 : Nat} {s1 : Int32} {v2 : Int32} {g2 : ab_H} {fs2 : List Value} (hr2 : (h)[q0]? = some (10, fs2)) (hm2 : MSE m_X10_fails d [.ref q0, .int s1, .int 0] h (some (.int v2)) g2) (kt : v2 = 0 → SW sc m_X10_cut (d + 1) rc rs 31 [some (.ref r0), some (.int l1), some (.int l2), none] [] g2 P) (kf : ¬ (v2 = 0) → SW sc m_X10_cut (d + 1) rc rs 29 [none, none, none, none] [] g2 P) : SW sc m_X10_cut (d + 1) rc rs 22 [some (.ref r0), some (.int l1), some (.int l2), none] [.int s1, .ref q0] h P := by
  refine sw_iconst (v := 0) dX10_cut_22 (by decide) ?_
  refine sw_cV (M := m_X10_cut) dX10_cut_23 lv_X10_286 hm2 hr2 rfl (by decide) rfl rfl rfl (Nat.le_of_ble_eq_true rfl) (fun _ _ => rfl) rfl ?_
  show SW sc m_X10_cut _ _ _ 26 [some (.ref r0), some (.int l1), some (.int l2), none] [.int v2] g2 P
  exact sw_if_eq dX10_cut_26 (by decide) (fun q => (kt q)) (fun q => (sw_fg [true, true, true, false] rfl (kf q)))
theorem b_X10_cut_29  (hP : P (.inl (some (.int 0))) h) : SW sc m_X10_cut d rc rs 29 [none, none, none, none] [] h P := by
  refine sw_iconst (v := 0) dX10_cut_29 (by decide) ?_
  exact sw_ret (v := (some (.int 0))) dX10_cut_30 (rt_n (by decide)) hP
theorem b_X10_cut_31 {r0 : Nat} {l1 : Int32} {l2 : Int32} {fs2 : List Value} {a2 : Nat} {vs4 : List Value} {x4 : Int32} {v6 : Int32} {g6 : ab_H} {fs9 : List Value} {a9 : Nat} (hc2 : (h)[r0]? = some (10, fs2)) (hv2 : fs2[1]? = some (.ref a2)) (hc4 : (h)[a2]? = some (100, vs4)) (ho4 : ¬ l1 < 0) (hi4 : vs4[l1.toNatClampNeg]? = some (.int x4)) (hm6 : MSE m_X10_has d [.int x4, .int l2] h (some (.int v6)) g6) (hc9 : (g6)[r0]? = some (10, fs9)) (hv9 : fs9[5]? = some (.ref a9)) (kt : v6 = 0 → SW sc m_X10_cut (d + 1) rc rs 54 [some (.ref r0), some (.int l1), some (.int l2), some (.int v6)] [.ref a9] g6 P) (kf : ¬ (v6 = 0) → SW sc m_X10_cut (d + 1) rc rs 50 [some (.ref r0), some (.int l1), some (.int l2), some (.int v6)] [.ref a9] g6 P) : SW sc m_X10_cut (d + 1) rc rs 31 [some (.ref r0), some (.int l1), some (.int l2), none] [] h P := by
  refine sw_aload_n dX10_cut_31 rfl ?_
  refine sw_getf dX10_cut_32 lf_X10_19 hc2 hv2 ?_
  refine sw_iload_n dX10_cut_35 rfl ?_
  refine sw_iald dX10_cut_36 hc4 ho4 hi4 ?_
  refine sw_iload_n dX10_cut_37 rfl ?_
  refine sw_cS (M := m_X10_cut) dX10_cut_38 ls_X10_70 hm6 rfl rfl (Nat.le_of_ble_eq_true rfl) (fun _ _ => rfl) rfl ?_
  show SW sc m_X10_cut _ _ _ 41 [some (.ref r0), some (.int l1), some (.int l2), none] [.int v6] g6 P
  refine sw_istore_n dX10_cut_41 (by decide) rfl ?_
  show SW sc m_X10_cut _ _ _ 42 [some (.ref r0), some (.int l1), some (.int l2), some (.int v6)] [] g6 P
  refine sw_aload_n dX10_cut_42 rfl ?_
  refine sw_getf dX10_cut_43 lf_X10_32 hc9 hv9 ?_
  refine sw_iload_n dX10_cut_46 rfl ?_
  exact sw_if_eq dX10_cut_47 (by decide) (fun q => (kt q)) (fun q => (kf q))
theorem b_X10_cut_50 {r0 : Nat} {l1 : Int32} {l2 : Int32} {l3 : Int32} {q0 : Nat} (k : SW sc m_X10_cut d rc rs 56 [some (.ref r0), some (.int l1), some (.int l2), some (.int l3)] [.int 1, .ref q0] h P) : SW sc m_X10_cut d rc rs 50 [some (.ref r0), some (.int l1), some (.int l2), some (.int l3)] [.ref q0] h P := by
  refine sw_iconst (v := 1) dX10_cut_50 (by decide) ?_
  exact sw_goto dX10_cut_51 (by decide) (k)
theorem b_X10_cut_54 {r0 : Nat} {l1 : Int32} {l2 : Int32} {l3 : Int32} {q0 : Nat} (k : SW sc m_X10_cut d rc rs 56 [some (.ref r0), some (.int l1), some (.int l2), some (.int l3)] [.int 6, .ref q0] h P) : SW sc m_X10_cut d rc rs 54 [some (.ref r0), some (.int l1), some (.int l2), some (.int l3)] [.ref q0] h P := by
  refine sw_bipush (v := 6) dX10_cut_54 (by decide) ?_
  exact (k)
theorem b_X10_cut_56 {r0 : Nat} {l1 : Int32} {l2 : Int32} {l3 : Int32} {q0 : Nat} {s1 : Int32} {vs2 : List Value} {x2 : Int32} {vs5 : List Value} (hc2 : (h)[q0]? = some (100, vs2)) (ho2 : ¬ s1 < 0) (hi2 : vs2[s1.toNatClampNeg]? = some (.int x2)) (hc5 : (h)[q0]? = some (100, vs5)) (ho5 : ¬ s1 < 0) (hl5 : s1.toNatClampNeg < vs5.length) (kt : ¬ l3 = 0 → SW sc m_X10_cut d rc rs 67 [some (.ref r0), some (.int l1), some (.int l2), none] [] ((h).set q0 (100, vs5.set s1.toNatClampNeg (.int (x2 + 1)))) P) (kf : l3 = 0 → SW sc m_X10_cut d rc rs 65 [none, none, none, none] [] ((h).set q0 (100, vs5.set s1.toNatClampNeg (.int (x2 + 1)))) P) : SW sc m_X10_cut d rc rs 56 [some (.ref r0), some (.int l1), some (.int l2), some (.int l3)] [.int s1, .ref q0] h P := by
  refine sw_dup2 dX10_cut_56 (fun _ _ => rfl) (fun _ _ => rfl) ?_
  refine sw_iald dX10_cut_57 hc2 ho2 hi2 ?_
  refine sw_iconst (v := 1) dX10_cut_58 (by decide) ?_
  refine sw_iadd dX10_cut_59 ?_
  refine sw_iast dX10_cut_60 hc5 ho5 hl5 ?_
  refine sw_iload_n dX10_cut_61 rfl ?_
  exact sw_if_ne dX10_cut_62 (by decide) (fun q => (sw_fg [false, false, false, true] rfl (kt q))) (fun q => (sw_fg [true, true, true, true] rfl (kf q)))
theorem b_X10_cut_65  (hP : P (.inl (some (.int 0))) h) : SW sc m_X10_cut d rc rs 65 [none, none, none, none] [] h P := by
  refine sw_iconst (v := 0) dX10_cut_65 (by decide) ?_
  exact sw_ret (v := (some (.int 0))) dX10_cut_66 (rt_n (by decide)) hP
theorem b_X10_cut_67 {r0 : Nat} {l1 : Int32} {l2 : Int32} {g2 : ab_H} {fs2 : List Value} {fs4 : List Value} {a4 : Nat} {g7 : ab_H} (hr2 : (h)[r0]? = some (10, fs2)) (hm2 : MSE m_X10_remembers d [.ref r0] h none g2) (hc4 : (g2)[r0]? = some (10, fs4)) (hv4 : fs4[1]? = some (.ref a4)) (hm7 : MSE m_X10_parts d [.ref a4, .int l1, .int l2] g2 none g7) (hP : P (.inl (some (.int 1))) g7) : SW sc m_X10_cut (d + 1) rc rs 67 [some (.ref r0), some (.int l1), some (.int l2), none] [] h P := by
  refine sw_aload_n dX10_cut_67 rfl ?_
  refine sw_cV (M := m_X10_cut) dX10_cut_68 lv_X10_350 hm2 hr2 rfl (by decide) rfl rfl rfl (Nat.le_of_ble_eq_true rfl) (fun _ _ => rfl) rfl ?_
  show SW sc m_X10_cut _ _ _ 71 [some (.ref r0), some (.int l1), some (.int l2), none] [] g2 P
  refine sw_aload_n dX10_cut_71 rfl ?_
  refine sw_getf dX10_cut_72 lf_X10_19 hc4 hv4 ?_
  refine sw_iload_n dX10_cut_75 rfl ?_
  refine sw_iload_n dX10_cut_76 rfl ?_
  refine sw_cS (M := m_X10_cut) dX10_cut_77 ls_X10_274 hm7 rfl rfl (Nat.le_of_ble_eq_true rfl) (fun _ _ => rfl) rfl ?_
  show SW sc m_X10_cut _ _ _ 80 [some (.ref r0), some (.int l1), some (.int l2), none] [] g7 P
  refine sw_iconst (v := 1) dX10_cut_80 (by decide) ?_
  exact sw_ret (v := (some (.int 1))) dX10_cut_81 (rt_n (by decide)) hP
end
