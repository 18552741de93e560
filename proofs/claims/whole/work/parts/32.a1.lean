section
variable {sc : Option (List Int32)} {d rc rs : Nat} {h : ab_H} {P : ab_O → ab_H → Prop}
theorem b_X2_treesWithLeaves_15 {r0 : Nat} {l1 : Int32} {l2 : Int32} (kt : l2 ≤ l1 → SW sc m_X2_treesWithLeaves d rc rs 22 [some (.ref r0), some (.int l1), some (.int l2), none, none] [] h P) (kf : ¬ (l2 ≤ l1) → SW sc m_X2_treesWithLeaves d rc rs 20 [none, none, none, none, none] [] h P) : SW sc m_X2_treesWithLeaves d rc rs 15 [some (.ref r0), some (.int l1), some (.int l2), none, none] [] h P := by
  refine sw_iload_n dX2_treesWithLeaves_15 rfl ?_
  refine sw_iload_n dX2_treesWithLeaves_16 rfl ?_
  exact sw_icmp_le dX2_treesWithLeaves_17 (by decide) (fun q => (kt q)) (fun q => (sw_fg [true, true, true, false, false] rfl (kf q)))
theorem b_X2_treesWithLeaves_20  (hP : P (.inl (some (.int 0))) h) : SW sc m_X2_treesWithLeaves d rc rs 20 [none, none, none, none, none] [] h P := by
  refine sw_iconst (v := 0) dX2_treesWithLeaves_20 (by decide) ?_
  exact sw_ret (v := (some (.int 0))) dX2_treesWithLeaves_21 rt_i hP
theorem b_X2_treesWithLeaves_22 {r0 : Nat} {l1 : Int32} {l2 : Int32} {v8 : Int32} {g8 : ab_H} {fs8 : List Value} (hr8 : (h)[r0]? = some (2, fs8)) (hm8 : MSE m_X2_partitionsOf d [.ref r0, .int (l1 - 2), .int (l1 - l2)] h (some (.int v8)) g8) (k : SW sc m_X2_treesWithLeaves (d + 1) rc rs 38 [none, some (.int l1), none, some (.int v8), some (.int (l2 + 1))] [] g8 P) : SW sc m_X2_treesWithLeaves (d + 1) rc rs 22 [some (.ref r0), some (.int l1), some (.int l2), none, none] [] h P := by
  refine sw_aload_n dX2_treesWithLeaves_22 rfl ?_
  refine sw_iload_n dX2_treesWithLeaves_23 rfl ?_
  refine sw_iconst (v := 2) dX2_treesWithLeaves_24 (by decide) ?_
  refine sw_isub dX2_treesWithLeaves_25 ?_
  refine sw_iload_n dX2_treesWithLeaves_26 rfl ?_
  refine sw_iload_n dX2_treesWithLeaves_27 rfl ?_
  refine sw_isub dX2_treesWithLeaves_28 ?_
  refine sw_cV (M := m_X2_treesWithLeaves) dX2_treesWithLeaves_29 lv_X2_21 hm8 hr8 rfl (by decide) rfl rfl rfl (Nat.le_of_ble_eq_true rfl) (fun _ _ => rfl) rfl ?_
  show SW sc m_X2_treesWithLeaves _ _ _ 32 [some (.ref r0), some (.int l1), some (.int l2), none, none] [.int v8] g8 P
  refine sw_istore_n dX2_treesWithLeaves_32 (by decide) rfl ?_
  show SW sc m_X2_treesWithLeaves _ _ _ 33 [some (.ref r0), some (.int l1), some (.int l2), some (.int v8), none] [] g8 P
  refine sw_iload_n dX2_treesWithLeaves_33 rfl ?_
  refine sw_iconst (v := 1) dX2_treesWithLeaves_34 (by decide) ?_
  refine sw_iadd dX2_treesWithLeaves_35 ?_
  refine sw_istore dX2_treesWithLeaves_36 (by decide) rfl ?_
  show SW sc m_X2_treesWithLeaves _ _ _ 38 [some (.ref r0), some (.int l1), some (.int l2), some (.int v8), some (.int (l2 + 1))] [] g8 P
  exact (sw_fg [true, false, true, false, false] rfl (k))
theorem b_X2_treesWithLeaves_38 {l1 : Int32} {l3 : Int32} {l4 : Int32} (kt : l1 < l4 → SW sc m_X2_treesWithLeaves d rc rs 55 [none, none, none, some (.int l3), none] [] h P) (kf : ¬ (l1 < l4) → SW sc m_X2_treesWithLeaves d rc rs 44 [none, some (.int l1), none, some (.int l3), some (.int l4)] [] h P) : SW sc m_X2_treesWithLeaves d rc rs 38 [none, some (.int l1), none, some (.int l3), some (.int l4)] [] h P := by
  refine sw_iload dX2_treesWithLeaves_38 rfl ?_
  refine sw_iload_n dX2_treesWithLeaves_40 rfl ?_
  exact sw_icmp_gt dX2_treesWithLeaves_41 (by decide) (fun q => (sw_fg [false, true, false, false, true] rfl (kt q))) (fun q => (kf q))
theorem b_X2_treesWithLeaves_44 {l1 : Int32} {l3 : Int32} {l4 : Int32} (k : SW sc m_X2_treesWithLeaves d rc rs 38 [none, some (.int l1), none, some (.int (l3 * l4)), some (.int (l4 + 1))] [] h P) : SW sc m_X2_treesWithLeaves d rc rs 44 [none, some (.int l1), none, some (.int l3), some (.int l4)] [] h P := by
  refine sw_iload_n dX2_treesWithLeaves_44 rfl ?_
  refine sw_iload dX2_treesWithLeaves_45 rfl ?_
  refine sw_imul dX2_treesWithLeaves_47 ?_
  refine sw_istore_n dX2_treesWithLeaves_48 (by decide) rfl ?_
  show SW sc m_X2_treesWithLeaves _ _ _ 49 [none, some (.int l1), none, some (.int (l3 * l4)), some (.int l4)] [] h P
  refine sw_iinc (v := l4 + 1) dX2_treesWithLeaves_49 rfl rfl (by decide) rfl ?_
  show SW sc m_X2_treesWithLeaves _ _ _ 52 [none, some (.int l1), none, some (.int (l3 * l4)), some (.int (l4 + 1))] [] h P
  exact sw_goto dX2_treesWithLeaves_52 (by decide) (k)
theorem b_X2_treesWithLeaves_55 {l3 : Int32} (hP : P (.inl (some (.int l3))) h) : SW sc m_X2_treesWithLeaves d rc rs 55 [none, none, none, some (.int l3), none] [] h P := by
  refine sw_iload_n dX2_treesWithLeaves_55 rfl ?_
  exact sw_ret (v := (some (.int l3))) dX2_treesWithLeaves_56 rt_i hP
theorem b_X2_partitionsOf_0 {r0 : Nat} {l1 : Int32} {l2 : Int32} (kt : l2 < 0 → SW sc m_X2_partitionsOf d rc rs 10 [none, none, none, none, none] [] h P) (kf : ¬ (l2 < 0) → SW sc m_X2_partitionsOf d rc rs 4 [some (.ref r0), some (.int l1), some (.int l2), none, none] [] h P) : SW sc m_X2_partitionsOf d rc rs 0 [some (.ref r0), some (.int l1), some (.int l2), none, none] [] h P := by
  refine sw_iload_n dX2_partitionsOf_0 rfl ?_
  exact sw_if_lt dX2_partitionsOf_1 (by decide) (fun q => (sw_fg [true, true, true, false, false] rfl (kt q))) (fun q => (kf q))
theorem b_X2_partitionsOf_4 {r0 : Nat} {l1 : Int32} {l2 : Int32} (kt : l2 ≤ 10 → SW sc m_X2_partitionsOf d rc rs 12 [some (.ref r0), some (.int l1), some (.int l2), none, none] [] h P) (kf : ¬ (l2 ≤ 10) → SW sc m_X2_partitionsOf d rc rs 10 [none, none, none, none, none] [] h P) : SW sc m_X2_partitionsOf d rc rs 4 [some (.ref r0), some (.int l1), some (.int l2), none, none] [] h P := by
  refine sw_iload_n dX2_partitionsOf_4 rfl ?_
  refine sw_bipush (v := 10) dX2_partitionsOf_5 (by decide) ?_
  exact sw_icmp_le dX2_partitionsOf_7 (by decide) (fun q => (kt q)) (fun q => (sw_fg [true, true, true, false, false] rfl (kf q)))
theorem b_X2_partitionsOf_10  (hP : P (.inl (some (.int 0))) h) : SW sc m_X2_partitionsOf d rc rs 10 [none, none, none, none, none] [] h P := by
  refine sw_iconst (v := 0) dX2_partitionsOf_10 (by decide) ?_
  exact sw_ret (v := (some (.int 0))) dX2_partitionsOf_11 rt_i hP
theorem b_X2_partitionsOf_12 {r0 : Nat} {l1 : Int32} {l2 : Int32} {fs2 : List Value} {a2 : Nat} {g4 : ab_H} {fs6 : List Value} {a6 : Nat} {vs9 : List Value} (hc2 : (h)[r0]? = some (2, fs2)) (hv2 : fs2[0]? = some (.ref a2)) (hm4 : MSE m_J7_fill_53178 d [.ref a2, .int 0] h none g4) (hc6 : (g4)[r0]? = some (2, fs6)) (hv6 : fs6[0]? = some (.ref a6)) (hc9 : (g4)[a6]? = some (100, vs9)) (ho9 : ¬ (0 : Int32) < 0) (hl9 : (0 : Int32).toNatClampNeg < vs9.length) (k : SW sc m_X2_partitionsOf (d + 1) rc rs 29 [some (.ref r0), some (.int l1), some (.int l2), some (.int 0), none] [] ((g4).set a6 (100, vs9.set (0 : Int32).toNatClampNeg (.int 1))) P) : SW sc m_X2_partitionsOf (d + 1) rc rs 12 [some (.ref r0), some (.int l1), some (.int l2), none, none] [] h P := by
  refine sw_aload_n dX2_partitionsOf_12 rfl ?_
  refine sw_getf dX2_partitionsOf_13 lf_X2_9 hc2 hv2 ?_
  refine sw_iconst (v := 0) dX2_partitionsOf_16 (by decide) ?_
  refine sw_cS (M := m_X2_partitionsOf) dX2_partitionsOf_17 ls_X2_25 hm4 rfl rfl (Nat.le_of_ble_eq_true rfl) (fun _ _ => rfl) rfl ?_
  show SW sc m_X2_partitionsOf _ _ _ 20 [some (.ref r0), some (.int l1), some (.int l2), none, none] [] g4 P
  refine sw_aload_n dX2_partitionsOf_20 rfl ?_
  refine sw_getf dX2_partitionsOf_21 lf_X2_9 hc6 hv6 ?_
  refine sw_iconst (v := 0) dX2_partitionsOf_24 (by decide) ?_
  refine sw_iconst (v := 1) dX2_partitionsOf_25 (by decide) ?_
  refine sw_iast dX2_partitionsOf_26 hc9 ho9 hl9 ?_
  refine sw_iconst (v := 0) dX2_partitionsOf_27 (by decide) ?_
  refine sw_istore_n dX2_partitionsOf_28 (by decide) rfl ?_
  show SW sc m_X2_partitionsOf _ _ _ 29 [some (.ref r0), some (.int l1), some (.int l2), some (.int 0), none] [] ((g4).set a6 (100, vs9.set (0 : Int32).toNatClampNeg (.int 1))) P
  exact (k)
theorem b_X2_partitionsOf_29 {r0 : Nat} {l1 : Int32} {l2 : Int32} {l3 : Int32} (kt : l1 ≤ l3 → SW sc m_X2_partitionsOf d rc rs 89 [some (.ref r0), none, some (.int l2), none, none] [] h P) (kf : ¬ (l1 ≤ l3) → SW sc m_X2_partitionsOf d rc rs 34 [some (.ref r0), some (.int l1), some (.int l2), some (.int l3), none] [] h P) : SW sc m_X2_partitionsOf d rc rs 29 [some (.ref r0), some (.int l1), some (.int l2), some (.int l3), none] [] h P := by
  refine sw_iload_n dX2_partitionsOf_29 rfl ?_
  refine sw_iload_n dX2_partitionsOf_30 rfl ?_
  exact sw_icmp_ge dX2_partitionsOf_31 (by decide) (fun q => (sw_fg [false, true, false, true, false] rfl (kt q))) (fun q => (kf q))
theorem b_X2_partitionsOf_34 {r0 : Nat} {l1 : Int32} {l2 : Int32} {l3 : Int32} (k : SW sc m_X2_partitionsOf d rc rs 38 [some (.ref r0), some (.int l1), some (.int l2), some (.int l3), some (.int 10)] [] h P) : SW sc m_X2_partitionsOf d rc rs 34 [some (.ref r0), some (.int l1), some (.int l2), some (.int l3), none] [] h P := by
  refine sw_bipush (v := 10) dX2_partitionsOf_34 (by decide) ?_
  refine sw_istore dX2_partitionsOf_36 (by decide) rfl ?_
  show SW sc m_X2_partitionsOf _ _ _ 38 [some (.ref r0), some (.int l1), some (.int l2), some (.int l3), some (.int 10)] [] h P
  exact (k)
theorem b_X2_partitionsOf_38 {r0 : Nat} {l1 : Int32} {l2 : Int32} {l3 : Int32} {l4 : Int32} (kt : l4 ≤ 0 → SW sc m_X2_partitionsOf d rc rs 76 [some (.ref r0), some (.int l1), some (.int l2), some (.int l3), none] [] h P) (kf : ¬ (l4 ≤ 0) → SW sc m_X2_partitionsOf d rc rs 43 [some (.ref r0), some (.int l1), some (.int l2), some (.int l3), some (.int l4)] [] h P) : SW sc m_X2_partitionsOf d rc rs 38 [some (.ref r0), some (.int l1), some (.int l2), some (.int l3), some (.int l4)] [] h P := by
  refine sw_iload dX2_partitionsOf_38 rfl ?_
  exact sw_if_le dX2_partitionsOf_40 (by decide) (fun q => (sw_fg [false, false, false, false, true] rfl (kt q))) (fun q => (kf q))
theorem b_X2_partitionsOf_43 {r0 : Nat} {l1 : Int32} {l2 : Int32} {l3 : Int32} {l4 : Int32} {fs2 : List Value} {a2 : Nat} {fs6 : List Value} {a6 : Nat} {vs8 : List Value} {x8 : Int32} {fs11 : List Value} {a11 : Nat} {vs15 : List Value} {x15 : Int32} {vs17 : List Value} (hc2 : (h)[r0]? = some (2, fs2)) (hv2 : fs2[0]? = some (.ref a2)) (hc6 : (h)[r0]? = some (2, fs6)) (hv6 : fs6[0]? = some (.ref a6)) (hc8 : (h)[a6]? = some (100, vs8)) (ho8 : ¬ l4 < 0) (hi8 : vs8[l4.toNatClampNeg]? = some (.int x8)) (hc11 : (h)[r0]? = some (2, fs11)) (hv11 : fs11[0]? = some (.ref a11)) (hc15 : (h)[a11]? = some (100, vs15)) (ho15 : ¬ (l4 - 1) < 0) (hi15 : vs15[(l4 - 1).toNatClampNeg]? = some (.int x15)) (hc17 : (h)[a2]? = some (100, vs17)) (ho17 : ¬ l4 < 0) (hl17 : l4.toNatClampNeg < vs17.length) (k : SW sc m_X2_partitionsOf d rc rs 38 [some (.ref r0), some (.int l1), some (.int l2), some (.int l3), some (.int (l4 + (-1)))] [] ((h).set a2 (100, vs17.set l4.toNatClampNeg (.int ((l4 * x8) + x15)))) P) : SW sc m_X2_partitionsOf d rc rs 43 [some (.ref r0), some (.int l1), some (.int l2), some (.int l3), some (.int l4)] [] h P := by
  refine sw_aload_n dX2_partitionsOf_43 rfl ?_
  refine sw_getf dX2_partitionsOf_44 lf_X2_9 hc2 hv2 ?_
  refine sw_iload dX2_partitionsOf_47 rfl ?_
  refine sw_iload dX2_partitionsOf_49 rfl ?_
  refine sw_aload_n dX2_partitionsOf_51 rfl ?_
  refine sw_getf dX2_partitionsOf_52 lf_X2_9 hc6 hv6 ?_
  refine sw_iload dX2_partitionsOf_55 rfl ?_
  refine sw_iald dX2_partitionsOf_57 hc8 ho8 hi8 ?_
  refine sw_imul dX2_partitionsOf_58 ?_
  refine sw_aload_n dX2_partitionsOf_59 rfl ?_
  refine sw_getf dX2_partitionsOf_60 lf_X2_9 hc11 hv11 ?_
  refine sw_iload dX2_partitionsOf_63 rfl ?_
  refine sw_iconst (v := 1) dX2_partitionsOf_65 (by decide) ?_
  refine sw_isub dX2_partitionsOf_66 ?_
  refine sw_iald dX2_partitionsOf_67 hc15 ho15 hi15 ?_
  refine sw_iadd dX2_partitionsOf_68 ?_
  refine sw_iast dX2_partitionsOf_69 hc17 ho17 hl17 ?_
  refine sw_iinc (v := l4 + (-1)) dX2_partitionsOf_70 rfl rfl (by decide) rfl ?_
  show SW sc m_X2_partitionsOf _ _ _ 73 [some (.ref r0), some (.int l1), some (.int l2), some (.int l3), some (.int (l4 + (-1)))] [] ((h).set a2 (100, vs17.set l4.toNatClampNeg (.int ((l4 * x8) + x15)))) P
  exact sw_goto dX2_partitionsOf_73 (by decide) (k)
theorem b_X2_partitionsOf_76 {r0 : Nat} {l1 : Int32} {l2 : Int32} {l3 : Int32} {fs2 : List Value} {a2 : Nat} {vs5 : List Value} (hc2 : (h)[r0]? = some (2, fs2)) (hv2 : fs2[0]? = some (.ref a2)) (hc5 : (h)[a2]? = some (100, vs5)) (ho5 : ¬ (0 : Int32) < 0) (hl5 : (0 : Int32).toNatClampNeg < vs5.length) (k : SW sc m_X2_partitionsOf d rc rs 29 [some (.ref r0), some (.int l1), some (.int l2), some (.int (l3 + 1)), none] [] ((h).set a2 (100, vs5.set (0 : Int32).toNatClampNeg (.int 0))) P) : SW sc m_X2_partitionsOf d rc rs 76 [some (.ref r0), some (.int l1), some (.int l2), some (.int l3), none] [] h P := by
  refine sw_aload_n dX2_partitionsOf_76 rfl ?_
  refine sw_getf dX2_partitionsOf_77 lf_X2_9 hc2 hv2 ?_
  refine sw_iconst (v := 0) dX2_partitionsOf_80 (by decide) ?_
  refine sw_iconst (v := 0) dX2_partitionsOf_81 (by decide) ?_
  refine sw_iast dX2_partitionsOf_82 hc5 ho5 hl5 ?_
  refine sw_iinc (v := l3 + 1) dX2_partitionsOf_83 rfl rfl (by decide) rfl ?_
  show SW sc m_X2_partitionsOf _ _ _ 86 [some (.ref r0), some (.int l1), some (.int l2), some (.int (l3 + 1)), none] [] ((h).set a2 (100, vs5.set (0 : Int32).toNatClampNeg (.int 0))) P
  exact sw_goto dX2_partitionsOf_86 (by decide) (k)
theorem b_X2_partitionsOf_89 {r0 : Nat} {l2 : Int32} {fs2 : List Value} {a2 : Nat} {vs4 : List Value} {x4 : Int32} (hc2 : (h)[r0]? = some (2, fs2)) (hv2 : fs2[0]? = some (.ref a2)) (hc4 : (h)[a2]? = some (100, vs4)) (ho4 : ¬ l2 < 0) (hi4 : vs4[l2.toNatClampNeg]? = some (.int x4)) (hP : P (.inl (some (.int x4))) h) : SW sc m_X2_partitionsOf d rc rs 89 [some (.ref r0), none, some (.int l2), none, none] [] h P := by
  refine sw_aload_n dX2_partitionsOf_89 rfl ?_
  refine sw_getf dX2_partitionsOf_90 lf_X2_9 hc2 hv2 ?_
  refine sw_iload_n dX2_partitionsOf_93 rfl ?_
  refine sw_iald dX2_partitionsOf_94 hc4 ho4 hi4 ?_
  exact sw_ret (v := (some (.int x4))) dX2_partitionsOf_95 rt_i hP
theorem b_X2_rootedClasses_0 {r0 : Nat} {l1 : Int32} {g2 : ab_H} {fs2 : List Value} (hr2 : (h)[r0]? = some (2, fs2)) (hm2 : MSE m_X2_countRooted d [.ref r0] h none g2) (kt : l1 < 1 → SW sc m_X2_rootedClasses (d + 1) rc rs 24 [none, none] [] g2 P) (kf : ¬ (l1 < 1) → SW sc m_X2_rootedClasses (d + 1) rc rs 9 [some (.ref r0), some (.int l1)] [] g2 P) : SW sc m_X2_rootedClasses (d + 1) rc rs 0 [some (.ref r0), some (.int l1)] [] h P := by
  refine sw_aload_n dX2_rootedClasses_0 rfl ?_
  refine sw_cV (M := m_X2_rootedClasses) dX2_rootedClasses_1 lv_X2_31 hm2 hr2 rfl (by decide) rfl rfl rfl (Nat.le_of_ble_eq_true rfl) (fun _ _ => rfl) rfl ?_
  show SW sc m_X2_rootedClasses _ _ _ 4 [some (.ref r0), some (.int l1)] [] g2 P
  refine sw_iload_n dX2_rootedClasses_4 rfl ?_
  refine sw_iconst (v := 1) dX2_rootedClasses_5 (by decide) ?_
  exact sw_icmp_lt dX2_rootedClasses_6 (by decide) (fun q => (sw_fg [true, true] rfl (kt q))) (fun q => (kf q))
theorem b_X2_rootedClasses_9 {r0 : Nat} {l1 : Int32} (kt : 10 < l1 → SW sc m_X2_rootedClasses d rc rs 24 [none, none] [] h P) (kf : ¬ (10 < l1) → SW sc m_X2_rootedClasses d rc rs 15 [some (.ref r0), some (.int l1)] [] h P) : SW sc m_X2_rootedClasses d rc rs 9 [some (.ref r0), some (.int l1)] [] h P := by
  refine sw_iload_n dX2_rootedClasses_9 rfl ?_
  refine sw_bipush (v := 10) dX2_rootedClasses_10 (by decide) ?_
  exact sw_icmp_gt dX2_rootedClasses_12 (by decide) (fun q => (sw_fg [true, true] rfl (kt q))) (fun q => (kf q))
theorem b_X2_rootedClasses_15 {r0 : Nat} {l1 : Int32} {fs2 : List Value} {a2 : Nat} {vs4 : List Value} {x4 : Int32} (hc2 : (h)[r0]? = some (2, fs2)) (hv2 : fs2[1]? = some (.ref a2)) (hc4 : (h)[a2]? = some (100, vs4)) (ho4 : ¬ l1 < 0) (hi4 : vs4[l1.toNatClampNeg]? = some (.int x4)) (k : SW sc m_X2_rootedClasses d rc rs 25 [none, none] [.int x4] h P) : SW sc m_X2_rootedClasses d rc rs 15 [some (.ref r0), some (.int l1)] [] h P := by
  refine sw_aload_n dX2_rootedClasses_15 rfl ?_
  refine sw_getf dX2_rootedClasses_16 lf_X2_15 hc2 hv2 ?_
  refine sw_iload_n dX2_rootedClasses_19 rfl ?_
  refine sw_iald dX2_rootedClasses_20 hc4 ho4 hi4 ?_
  exact sw_goto dX2_rootedClasses_21 (by decide) (sw_fg [true, true] rfl (k))
theorem b_X2_rootedClasses_24  (k : SW sc m_X2_rootedClasses d rc rs 25 [none, none] [.int 0] h P) : SW sc m_X2_rootedClasses d rc rs 24 [none, none] [] h P := by
  refine sw_iconst (v := 0) dX2_rootedClasses_24 (by decide) ?_
  exact (k)
theorem b_X2_rootedClasses_25 {s0 : Int32} (hP : P (.inl (some (.int s0))) h) : SW sc m_X2_rootedClasses d rc rs 25 [none, none] [.int s0] h P := by
  exact sw_ret (v := (some (.int s0))) dX2_rootedClasses_25 rt_i hP
theorem b_X2_countRooted_0 {r0 : Nat} {fs2 : List Value} {a2 : Nat} {g4 : ab_H} {fs6 : List Value} {a6 : Nat} {vs9 : List Value} (hc2 : (h)[r0]? = some (2, fs2)) (hv2 : fs2[2]? = some (.ref a2)) (hm4 : MSE m_J7_fill_53178 d [.ref a2, .int 0] h none g4) (hc6 : (g4)[r0]? = some (2, fs6)) (hv6 : fs6[1]? = some (.ref a6)) (hc9 : (g4)[a6]? = some (100, vs9)) (ho9 : ¬ (1 : Int32) < 0) (hl9 : (1 : Int32).toNatClampNeg < vs9.length) (k : SW sc m_X2_countRooted (d + 1) rc rs 17 [some (.ref r0), some (.int 1), none, none] [] ((g4).set a6 (100, vs9.set (1 : Int32).toNatClampNeg (.int 1))) P) : SW sc m_X2_countRooted (d + 1) rc rs 0 [some (.ref r0), none, none, none] [] h P := by
  refine sw_aload_n dX2_countRooted_0 rfl ?_
  refine sw_getf dX2_countRooted_1 lf_X2_18 hc2 hv2 ?_
  refine sw_iconst (v := 0) dX2_countRooted_4 (by decide) ?_
  refine sw_cS (M := m_X2_countRooted) dX2_countRooted_5 ls_X2_25 hm4 rfl rfl (Nat.le_of_ble_eq_true rfl) (fun _ _ => rfl) rfl ?_
  show SW sc m_X2_countRooted _ _ _ 8 [some (.ref r0), none, none, none] [] g4 P
  refine sw_aload_n dX2_countRooted_8 rfl ?_
  refine sw_getf dX2_countRooted_9 lf_X2_15 hc6 hv6 ?_
  refine sw_iconst (v := 1) dX2_countRooted_12 (by decide) ?_
  refine sw_iconst (v := 1) dX2_countRooted_13 (by decide) ?_
  refine sw_iast dX2_countRooted_14 hc9 ho9 hl9 ?_
  refine sw_iconst (v := 1) dX2_countRooted_15 (by decide) ?_
  refine sw_istore_n dX2_countRooted_16 (by decide) rfl ?_
  show SW sc m_X2_countRooted _ _ _ 17 [some (.ref r0), some (.int 1), none, none] [] ((g4).set a6 (100, vs9.set (1 : Int32).toNatClampNeg (.int 1))) P
  exact (k)
theorem b_X2_countRooted_17 {r0 : Nat} {l1 : Int32} (kt : 10 ≤ l1 → SW sc m_X2_countRooted d rc rs 107 [none, none, none, none] [] h P) (kf : ¬ (10 ≤ l1) → SW sc m_X2_countRooted d rc rs 23 [some (.ref r0), some (.int l1), none, none] [] h P) : SW sc m_X2_countRooted d rc rs 17 [some (.ref r0), some (.int l1), none, none] [] h P := by
  refine sw_iload_n dX2_countRooted_17 rfl ?_
  refine sw_bipush (v := 10) dX2_countRooted_18 (by decide) ?_
  exact sw_icmp_ge dX2_countRooted_20 (by decide) (fun q => (sw_fg [true, true, false, false] rfl (kt q))) (fun q => (kf q))
theorem b_X2_countRooted_23 {r0 : Nat} {l1 : Int32} (k : SW sc m_X2_countRooted d rc rs 25 [some (.ref r0), some (.int l1), some (.int l1), none] [] h P) : SW sc m_X2_countRooted d rc rs 23 [some (.ref r0), some (.int l1), none, none] [] h P := by
  refine sw_iload_n dX2_countRooted_23 rfl ?_
  refine sw_istore_n dX2_countRooted_24 (by decide) rfl ?_
  show SW sc m_X2_countRooted _ _ _ 25 [some (.ref r0), some (.int l1), some (.int l1), none] [] h P
  exact (k)
theorem b_X2_countRooted_25 {r0 : Nat} {l1 : Int32} {l2 : Int32} (kt : 10 < l2 → SW sc m_X2_countRooted d rc rs 55 [some (.ref r0), some (.int l1), none, none] [] h P) (kf : ¬ (10 < l2) → SW sc m_X2_countRooted d rc rs 31 [some (.ref r0), some (.int l1), some (.int l2), none] [] h P) : SW sc m_X2_countRooted d rc rs 25 [some (.ref r0), some (.int l1), some (.int l2), none] [] h P := by
  refine sw_iload_n dX2_countRooted_25 rfl ?_
  refine sw_bipush (v := 10) dX2_countRooted_26 (by decide) ?_
  exact sw_icmp_gt dX2_countRooted_28 (by decide) (fun q => (sw_fg [false, false, true, false] rfl (kt q))) (fun q => (kf q))
theorem b_X2_countRooted_31 {r0 : Nat} {l1 : Int32} {l2 : Int32} {fs2 : List Value} {a2 : Nat} {vs5 : List Value} {x5 : Int32} {fs8 : List Value} {a8 : Nat} {vs10 : List Value} {x10 : Int32} {vs13 : List Value} (hc2 : (h)[r0]? = some (2, fs2)) (hv2 : fs2[2]? = some (.ref a2)) (hc5 : (h)[a2]? = some (100, vs5)) (ho5 : ¬ l2 < 0) (hi5 : vs5[l2.toNatClampNeg]? = some (.int x5)) (hc8 : (h)[r0]? = some (2, fs8)) (hv8 : fs8[1]? = some (.ref a8)) (hc10 : (h)[a8]? = some (100, vs10)) (ho10 : ¬ l1 < 0) (hi10 : vs10[l1.toNatClampNeg]? = some (.int x10)) (hc13 : (h)[a2]? = some (100, vs13)) (ho13 : ¬ l2 < 0) (hl13 : l2.toNatClampNeg < vs13.length) (k : SW sc m_X2_countRooted d rc rs 25 [some (.ref r0), some (.int l1), some (.int (l2 + l1)), none] [] ((h).set a2 (100, vs13.set l2.toNatClampNeg (.int (x5 + (l1 * x10))))) P) : SW sc m_X2_countRooted d rc rs 31 [some (.ref r0), some (.int l1), some (.int l2), none] [] h P := by
  refine sw_aload_n dX2_countRooted_31 rfl ?_
  refine sw_getf dX2_countRooted_32 lf_X2_18 hc2 hv2 ?_
  refine sw_iload_n dX2_countRooted_35 rfl ?_
  refine sw_dup2 dX2_countRooted_36 (fun _ _ => rfl) (fun _ _ => rfl) ?_
  refine sw_iald dX2_countRooted_37 hc5 ho5 hi5 ?_
  refine sw_iload_n dX2_countRooted_38 rfl ?_
  refine sw_aload_n dX2_countRooted_39 rfl ?_
  refine sw_getf dX2_countRooted_40 lf_X2_15 hc8 hv8 ?_
  refine sw_iload_n dX2_countRooted_43 rfl ?_
  refine sw_iald dX2_countRooted_44 hc10 ho10 hi10 ?_
  refine sw_imul dX2_countRooted_45 ?_
  refine sw_iadd dX2_countRooted_46 ?_
  refine sw_iast dX2_countRooted_47 hc13 ho13 hl13 ?_
  refine sw_iload_n dX2_countRooted_48 rfl ?_
  refine sw_iload_n dX2_countRooted_49 rfl ?_
  refine sw_iadd dX2_countRooted_50 ?_
  refine sw_istore_n dX2_countRooted_51 (by decide) rfl ?_
  show SW sc m_X2_countRooted _ _ _ 52 [some (.ref r0), some (.int l1), some (.int (l2 + l1)), none] [] ((h).set a2 (100, vs13.set l2.toNatClampNeg (.int (x5 + (l1 * x10))))) P
  exact sw_goto dX2_countRooted_52 (by decide) (k)
theorem b_X2_countRooted_55 {r0 : Nat} {l1 : Int32} (k : SW sc m_X2_countRooted d rc rs 59 [some (.ref r0), some (.int l1), some (.int 0), some (.int 1)] [] h P) : SW sc m_X2_countRooted d rc rs 55 [some (.ref r0), some (.int l1), none, none] [] h P := by
  refine sw_iconst (v := 0) dX2_countRooted_55 (by decide) ?_
  refine sw_istore_n dX2_countRooted_56 (by decide) rfl ?_
  show SW sc m_X2_countRooted _ _ _ 57 [some (.ref r0), some (.int l1), some (.int 0), none] [] h P
  refine sw_iconst (v := 1) dX2_countRooted_57 (by decide) ?_
  refine sw_istore_n dX2_countRooted_58 (by decide) rfl ?_
  show SW sc m_X2_countRooted _ _ _ 59 [some (.ref r0), some (.int l1), some (.int 0), some (.int 1)] [] h P
  exact (k)
theorem b_X2_countRooted_59 {r0 : Nat} {l1 : Int32} {l2 : Int32} {l3 : Int32} (kt : l1 < l3 → SW sc m_X2_countRooted d rc rs 90 [some (.ref r0), some (.int l1), some (.int l2), none] [] h P) (kf : ¬ (l1 < l3) → SW sc m_X2_countRooted d rc rs 64 [some (.ref r0), some (.int l1), some (.int l2), some (.int l3)] [] h P) : SW sc m_X2_countRooted d rc rs 59 [some (.ref r0), some (.int l1), some (.int l2), some (.int l3)] [] h P := by
  refine sw_iload_n dX2_countRooted_59 rfl ?_
  refine sw_iload_n dX2_countRooted_60 rfl ?_
  exact sw_icmp_gt dX2_countRooted_61 (by decide) (fun q => (sw_fg [false, false, false, true] rfl (kt q))) (fun q => (kf q))
theorem b_X2_countRooted_64 {r0 : Nat} {l1 : Int32} {l2 : Int32} {l3 : Int32} {fs3 : List Value} {a3 : Nat} {vs5 : List Value} {x5 : Int32} {fs7 : List Value} {a7 : Nat} {vs13 : List Value} {x13 : Int32} (hc3 : (h)[r0]? = some (2, fs3)) (hv3 : fs3[2]? = some (.ref a3)) (hc5 : (h)[a3]? = some (100, vs5)) (ho5 : ¬ l3 < 0) (hi5 : vs5[l3.toNatClampNeg]? = some (.int x5)) (hc7 : (h)[r0]? = some (2, fs7)) (hv7 : fs7[1]? = some (.ref a7)) (hc13 : (h)[a7]? = some (100, vs13)) (ho13 : ¬ ((l1 + 1) - l3) < 0) (hi13 : vs13[((l1 + 1) - l3).toNatClampNeg]? = some (.int x13)) (k : SW sc m_X2_countRooted d rc rs 59 [some (.ref r0), some (.int l1), some (.int (l2 + (x5 * x13))), some (.int (l3 + 1))] [] h P) : SW sc m_X2_countRooted d rc rs 64 [some (.ref r0), some (.int l1), some (.int l2), some (.int l3)] [] h P := by
  refine sw_iload_n dX2_countRooted_64 rfl ?_
  refine sw_aload_n dX2_countRooted_65 rfl ?_
  refine sw_getf dX2_countRooted_66 lf_X2_18 hc3 hv3 ?_
  refine sw_iload_n dX2_countRooted_69 rfl ?_
  refine sw_iald dX2_countRooted_70 hc5 ho5 hi5 ?_
  refine sw_aload_n dX2_countRooted_71 rfl ?_
  refine sw_getf dX2_countRooted_72 lf_X2_15 hc7 hv7 ?_
  refine sw_iload_n dX2_countRooted_75 rfl ?_
  refine sw_iconst (v := 1) dX2_countRooted_76 (by decide) ?_
  refine sw_iadd dX2_countRooted_77 ?_
  refine sw_iload_n dX2_countRooted_78 rfl ?_
  refine sw_isub dX2_countRooted_79 ?_
  refine sw_iald dX2_countRooted_80 hc13 ho13 hi13 ?_
  refine sw_imul dX2_countRooted_81 ?_
  refine sw_iadd dX2_countRooted_82 ?_
  refine sw_istore_n dX2_countRooted_83 (by decide) rfl ?_
  show SW sc m_X2_countRooted _ _ _ 84 [some (.ref r0), some (.int l1), some (.int (l2 + (x5 * x13))), some (.int l3)] [] h P
  refine sw_iinc (v := l3 + 1) dX2_countRooted_84 rfl rfl (by decide) rfl ?_
  show SW sc m_X2_countRooted _ _ _ 87 [some (.ref r0), some (.int l1), some (.int (l2 + (x5 * x13))), some (.int (l3 + 1))] [] h P
  exact sw_goto dX2_countRooted_87 (by decide) (k)
theorem b_X2_countRooted_90 {r0 : Nat} {l1 : Int32} {l2 : Int32} {fs2 : List Value} {a2 : Nat} {vs9 : List Value} (hc2 : (h)[r0]? = some (2, fs2)) (hv2 : fs2[1]? = some (.ref a2)) (hz8 : ¬ l1 = 0) (hc9 : (h)[a2]? = some (100, vs9)) (ho9 : ¬ (l1 + 1) < 0) (hl9 : (l1 + 1).toNatClampNeg < vs9.length) (k : SW sc m_X2_countRooted d rc rs 17 [some (.ref r0), some (.int (l1 + 1)), none, none] [] ((h).set a2 (100, vs9.set (l1 + 1).toNatClampNeg (.int (l2 / l1)))) P) : SW sc m_X2_countRooted d rc rs 90 [some (.ref r0), some (.int l1), some (.int l2), none] [] h P := by
  refine sw_aload_n dX2_countRooted_90 rfl ?_
  refine sw_getf dX2_countRooted_91 lf_X2_15 hc2 hv2 ?_
  refine sw_iload_n dX2_countRooted_94 rfl ?_
  refine sw_iconst (v := 1) dX2_countRooted_95 (by decide) ?_
  refine sw_iadd dX2_countRooted_96 ?_
  refine sw_iload_n dX2_countRooted_97 rfl ?_
  refine sw_iload_n dX2_countRooted_98 rfl ?_
  refine sw_idiv dX2_countRooted_99 hz8 ?_
  refine sw_iast dX2_countRooted_100 hc9 ho9 hl9 ?_
  refine sw_iinc (v := l1 + 1) dX2_countRooted_101 rfl rfl (by decide) rfl ?_
  show SW sc m_X2_countRooted _ _ _ 104 [some (.ref r0), some (.int (l1 + 1)), some (.int l2), none] [] ((h).set a2 (100, vs9.set (l1 + 1).toNatClampNeg (.int (l2 / l1)))) P
  exact sw_goto dX2_countRooted_104 (by decide) (sw_fg [false, false, true, false] rfl (k))
theorem b_X2_countRooted_107  (hP : P (.inl none) h) : SW sc m_X2_countRooted d rc rs 107 [none, none, none, none] [] h P := by
  exact sw_ret (v := none) dX2_countRooted_107 rt_v hP
theorem b_X2_freeClasses_0 {r0 : Nat} {l1 : Int32} (kt : l1 < 1 → SW sc m_X2_freeClasses d rc rs 11 [none, none, none, none] [] h P) (kf : ¬ (l1 < 1) → SW sc m_X2_freeClasses d rc rs 5 [some (.ref r0), some (.int l1), none, none] [] h P) : SW sc m_X2_freeClasses d rc rs 0 [some (.ref r0), some (.int l1), none, none] [] h P := by
  refine sw_iload_n dX2_freeClasses_0 rfl ?_
  refine sw_iconst (v := 1) dX2_freeClasses_1 (by decide) ?_
  exact sw_icmp_lt dX2_freeClasses_2 (by decide) (fun q => (sw_fg [true, true, false, false] rfl (kt q))) (fun q => (kf q))
theorem b_X2_freeClasses_5 {r0 : Nat} {l1 : Int32} (kt : l1 ≤ 10 → SW sc m_X2_freeClasses d rc rs 13 [some (.ref r0), some (.int l1), none, none] [] h P) (kf : ¬ (l1 ≤ 10) → SW sc m_X2_freeClasses d rc rs 11 [none, none, none, none] [] h P) : SW sc m_X2_freeClasses d rc rs 5 [some (.ref r0), some (.int l1), none, none] [] h P := by
  refine sw_iload_n dX2_freeClasses_5 rfl ?_
  refine sw_bipush (v := 10) dX2_freeClasses_6 (by decide) ?_
  exact sw_icmp_le dX2_freeClasses_8 (by decide) (fun q => (kt q)) (fun q => (sw_fg [true, true, false, false] rfl (kf q)))
theorem b_X2_freeClasses_11  (hP : P (.inl (some (.int 0))) h) : SW sc m_X2_freeClasses d rc rs 11 [none, none, none, none] [] h P := by
  refine sw_iconst (v := 0) dX2_freeClasses_11 (by decide) ?_
  exact sw_ret (v := (some (.int 0))) dX2_freeClasses_12 rt_i hP
theorem b_X2_freeClasses_13 {r0 : Nat} {l1 : Int32} {g2 : ab_H} {fs2 : List Value} (hr2 : (h)[r0]? = some (2, fs2)) (hm2 : MSE m_X2_countRooted d [.ref r0] h none g2) (hz5 : ¬ (2 : Int32) = 0) (kt : ¬ (l1 - l1 / 2 * 2) = 0 → SW sc m_X2_freeClasses (d + 1) rc rs 35 [some (.ref r0), some (.int l1), none, none] [] g2 P) (kf : (l1 - l1 / 2 * 2) = 0 → SW sc m_X2_freeClasses (d + 1) rc rs 23 [some (.ref r0), some (.int l1), none, none] [] g2 P) : SW sc m_X2_freeClasses (d + 1) rc rs 13 [some (.ref r0), some (.int l1), none, none] [] h P := by
  refine sw_aload_n dX2_freeClasses_13 rfl ?_
  refine sw_cV (M := m_X2_freeClasses) dX2_freeClasses_14 lv_X2_31 hm2 hr2 rfl (by decide) rfl rfl rfl (Nat.le_of_ble_eq_true rfl) (fun _ _ => rfl) rfl ?_
  show SW sc m_X2_freeClasses _ _ _ 17 [some (.ref r0), some (.int l1), none, none] [] g2 P
  refine sw_iload_n dX2_freeClasses_17 rfl ?_
  refine sw_iconst (v := 2) dX2_freeClasses_18 (by decide) ?_
  refine sw_irem dX2_freeClasses_19 hz5 ?_
  exact sw_if_ne dX2_freeClasses_20 (by decide) (fun q => (kt q)) (fun q => (kf q))
theorem b_X2_freeClasses_23 {r0 : Nat} {l1 : Int32} {fs2 : List Value} {a2 : Nat} {vs6 : List Value} {x6 : Int32} (hc2 : (h)[r0]? = some (2, fs2)) (hv2 : fs2[1]? = some (.ref a2)) (hz5 : ¬ (2 : Int32) = 0) (hc6 : (h)[a2]? = some (100, vs6)) (ho6 : ¬ (l1 / 2) < 0) (hi6 : vs6[(l1 / 2).toNatClampNeg]? = some (.int x6)) (k : SW sc m_X2_freeClasses d rc rs 36 [some (.ref r0), some (.int l1), none, none] [.int (-x6)] h P) : SW sc m_X2_freeClasses d rc rs 23 [some (.ref r0), some (.int l1), none, none] [] h P := by
  refine sw_aload_n dX2_freeClasses_23 rfl ?_
  refine sw_getf dX2_freeClasses_24 lf_X2_15 hc2 hv2 ?_
  refine sw_iload_n dX2_freeClasses_27 rfl ?_
  refine sw_iconst (v := 2) dX2_freeClasses_28 (by decide) ?_
  refine sw_idiv dX2_freeClasses_29 hz5 ?_
  refine sw_iald dX2_freeClasses_30 hc6 ho6 hi6 ?_
  refine sw_ineg dX2_freeClasses_31 ?_
  exact sw_goto dX2_freeClasses_32 (by decide) (k)
theorem b_X2_freeClasses_35 {r0 : Nat} {l1 : Int32} (k : SW sc m_X2_freeClasses d rc rs 36 [some (.ref r0), some (.int l1), none, none] [.int 0] h P) : SW sc m_X2_freeClasses d rc rs 35 [some (.ref r0), some (.int l1), none, none] [] h P := by
  refine sw_iconst (v := 0) dX2_freeClasses_35 (by decide) ?_
  exact (k)
theorem b_X2_freeClasses_36 {r0 : Nat} {l1 : Int32} {s0 : Int32} (k : SW sc m_X2_freeClasses d rc rs 39 [some (.ref r0), some (.int l1), some (.int s0), some (.int 1)] [] h P) : SW sc m_X2_freeClasses d rc rs 36 [some (.ref r0), some (.int l1), none, none] [.int s0] h P := by
  refine sw_istore_n dX2_freeClasses_36 (by decide) rfl ?_
  show SW sc m_X2_freeClasses _ _ _ 37 [some (.ref r0), some (.int l1), some (.int s0), none] [] h P
  refine sw_iconst (v := 1) dX2_freeClasses_37 (by decide) ?_
  refine sw_istore_n dX2_freeClasses_38 (by decide) rfl ?_
  show SW sc m_X2_freeClasses _ _ _ 39 [some (.ref r0), some (.int l1), some (.int s0), some (.int 1)] [] h P
  exact (k)
theorem b_X2_freeClasses_39 {r0 : Nat} {l1 : Int32} {l2 : Int32} {l3 : Int32} (kt : l1 ≤ l3 → SW sc m_X2_freeClasses d rc rs 68 [some (.ref r0), some (.int l1), some (.int l2), none] [] h P) (kf : ¬ (l1 ≤ l3) → SW sc m_X2_freeClasses d rc rs 44 [some (.ref r0), some (.int l1), some (.int l2), some (.int l3)] [] h P) : SW sc m_X2_freeClasses d rc rs 39 [some (.ref r0), some (.int l1), some (.int l2), some (.int l3)] [] h P := by
  refine sw_iload_n dX2_freeClasses_39 rfl ?_
  refine sw_iload_n dX2_freeClasses_40 rfl ?_
  exact sw_icmp_ge dX2_freeClasses_41 (by decide) (fun q => (sw_fg [false, false, false, true] rfl (kt q))) (fun q => (kf q))
theorem b_X2_freeClasses_44 {r0 : Nat} {l1 : Int32} {l2 : Int32} {l3 : Int32} {fs3 : List Value} {a3 : Nat} {vs5 : List Value} {x5 : Int32} {fs7 : List Value} {a7 : Nat} {vs11 : List Value} {x11 : Int32} (hc3 : (h)[r0]? = some (2, fs3)) (hv3 : fs3[1]? = some (.ref a3)) (hc5 : (h)[a3]? = some (100, vs5)) (ho5 : ¬ l3 < 0) (hi5 : vs5[l3.toNatClampNeg]? = some (.int x5)) (hc7 : (h)[r0]? = some (2, fs7)) (hv7 : fs7[1]? = some (.ref a7)) (hc11 : (h)[a7]? = some (100, vs11)) (ho11 : ¬ (l1 - l3) < 0) (hi11 : vs11[(l1 - l3).toNatClampNeg]? = some (.int x11)) (k : SW sc m_X2_freeClasses d rc rs 39 [some (.ref r0), some (.int l1), some (.int (l2 + (x5 * x11))), some (.int (l3 + 1))] [] h P) : SW sc m_X2_freeClasses d rc rs 44 [some (.ref r0), some (.int l1), some (.int l2), some (.int l3)] [] h P := by
  refine sw_iload_n dX2_freeClasses_44 rfl ?_
  refine sw_aload_n dX2_freeClasses_45 rfl ?_
  refine sw_getf dX2_freeClasses_46 lf_X2_15 hc3 hv3 ?_
  refine sw_iload_n dX2_freeClasses_49 rfl ?_
  refine sw_iald dX2_freeClasses_50 hc5 ho5 hi5 ?_
  refine sw_aload_n dX2_freeClasses_51 rfl ?_
  refine sw_getf dX2_freeClasses_52 lf_X2_15 hc7 hv7 ?_
  refine sw_iload_n dX2_freeClasses_55 rfl ?_
  refine sw_iload_n dX2_freeClasses_56 rfl ?_
  refine sw_isub dX2_freeClasses_57 ?_
  refine sw_iald dX2_freeClasses_58 hc11 ho11 hi11 ?_
  refine sw_imul dX2_freeClasses_59 ?_
  refine sw_iadd dX2_freeClasses_60 ?_
  refine sw_istore_n dX2_freeClasses_61 (by decide) rfl ?_
  show SW sc m_X2_freeClasses _ _ _ 62 [some (.ref r0), some (.int l1), some (.int (l2 + (x5 * x11))), some (.int l3)] [] h P
  refine sw_iinc (v := l3 + 1) dX2_freeClasses_62 rfl rfl (by decide) rfl ?_
  show SW sc m_X2_freeClasses _ _ _ 65 [some (.ref r0), some (.int l1), some (.int (l2 + (x5 * x11))), some (.int (l3 + 1))] [] h P
  exact sw_goto dX2_freeClasses_65 (by decide) (k)
theorem b_X2_freeClasses_68 {r0 : Nat} {l1 : Int32} {l2 : Int32} {fs2 : List Value} {a2 : Nat} {vs4 : List Value} {x4 : Int32} (hc2 : (h)[r0]? = some (2, fs2)) (hv2 : fs2[1]? = some (.ref a2)) (hc4 : (h)[a2]? = some (100, vs4)) (ho4 : ¬ l1 < 0) (hi4 : vs4[l1.toNatClampNeg]? = some (.int x4)) (hz7 : ¬ (2 : Int32) = 0) (hP : P (.inl (some (.int (x4 - (l2 / 2))))) h) : SW sc m_X2_freeClasses d rc rs 68 [some (.ref r0), some (.int l1), some (.int l2), none] [] h P := by
  refine sw_aload_n dX2_freeClasses_68 rfl ?_
  refine sw_getf dX2_freeClasses_69 lf_X2_15 hc2 hv2 ?_
  refine sw_iload_n dX2_freeClasses_72 rfl ?_
  refine sw_iald dX2_freeClasses_73 hc4 ho4 hi4 ?_
  refine sw_iload_n dX2_freeClasses_74 rfl ?_
  refine sw_iconst (v := 2) dX2_freeClasses_75 (by decide) ?_
  refine sw_idiv dX2_freeClasses_76 hz7 ?_
  refine sw_isub dX2_freeClasses_77 ?_
  exact sw_ret (v := (some (.int (x4 - (l2 / 2))))) dX2_freeClasses_78 rt_i hP
theorem b_X3_clear_0 {r0 : Nat} {l1 : Int32} (kt : l1 < 1 → SW sc m_X3_clear d rc rs 16 [some (.ref r0), none] [] h P) (kf : ¬ (l1 < 1) → SW sc m_X3_clear d rc rs 5 [some (.ref r0), some (.int l1)] [] h P) : SW sc m_X3_clear d rc rs 0 [some (.ref r0), some (.int l1)] [] h P := by
  refine sw_iload_n dX3_clear_0 rfl ?_
  refine sw_iconst (v := 1) dX3_clear_1 (by decide) ?_
  exact sw_icmp_lt dX3_clear_2 (by decide) (fun q => (sw_fg [false, true] rfl (kt q))) (fun q => (kf q))
theorem b_X3_clear_5 {r0 : Nat} {l1 : Int32} (kt : 10 < l1 → SW sc m_X3_clear d rc rs 16 [some (.ref r0), none] [] h P) (kf : ¬ (10 < l1) → SW sc m_X3_clear d rc rs 11 [some (.ref r0), some (.int l1)] [] h P) : SW sc m_X3_clear d rc rs 5 [some (.ref r0), some (.int l1)] [] h P := by
  refine sw_iload_n dX3_clear_5 rfl ?_
  refine sw_bipush (v := 10) dX3_clear_6 (by decide) ?_
  exact sw_icmp_gt dX3_clear_8 (by decide) (fun q => (sw_fg [false, true] rfl (kt q))) (fun q => (kf q))
theorem b_X3_clear_11 {r0 : Nat} {l1 : Int32} {fs3 : List Value} (hc3 : (h)[r0]? = some (3, fs3)) (hk3 : 2 < fs3.length) (k : SW sc m_X3_clear d rc rs 16 [some (.ref r0), none] [] ((h).set r0 (3, fs3.set 2 (.int l1))) P) : SW sc m_X3_clear d rc rs 11 [some (.ref r0), some (.int l1)] [] h P := by
  refine sw_aload_n dX3_clear_11 rfl ?_
  refine sw_iload_n dX3_clear_12 rfl ?_
  refine sw_putf dX3_clear_13 lp_X3_18 hc3 hk3 (fun _ _ => ⟨rfl, rfl⟩) ?_
  exact (sw_fg [false, true] rfl (k))
theorem b_X3_clear_16 {r0 : Nat} {g2 : ab_H} {fs2 : List Value} {fs4 : List Value} {a4 : Nat} {g6 : ab_H} (hr2 : (h)[r0]? = some (3, fs2)) (hm2 : MSE m_X3_dropEdges d [.ref r0] h none g2) (hc4 : (g2)[r0]? = some (3, fs4)) (hv4 : fs4[1]? = some (.ref a4)) (hm6 : MSE m_J7_fill_53178 d [.ref a4, .int 1] g2 none g6) (hP : P (.inl none) g6) : SW sc m_X3_clear (d + 1) rc rs 16 [some (.ref r0), none] [] h P := by
  refine sw_aload_n dX3_clear_16 rfl ?_
  refine sw_cV (M := m_X3_clear) dX3_clear_17 lv_X3_28 hm2 hr2 rfl (by decide) rfl rfl rfl (Nat.le_of_ble_eq_true rfl) (fun _ _ => rfl) rfl ?_
  show SW sc m_X3_clear _ _ _ 20 [some (.ref r0), none] [] g2 P
  refine sw_aload_n dX3_clear_20 rfl ?_
  refine sw_getf dX3_clear_21 lf_X3_15 hc4 hv4 ?_
  refine sw_iconst (v := 1) dX3_clear_24 (by decide) ?_
  refine sw_cS (M := m_X3_clear) dX3_clear_25 ls_X3_22 hm6 rfl rfl (Nat.le_of_ble_eq_true rfl) (fun _ _ => rfl) rfl ?_
  show SW sc m_X3_clear _ _ _ 28 [some (.ref r0), none] [] g6 P
  exact sw_ret (v := none) dX3_clear_28 rt_v hP
theorem b_X3_dropEdges_0 {r0 : Nat} {fs2 : List Value} {a2 : Nat} {g4 : ab_H} (hc2 : (h)[r0]? = some (3, fs2)) (hv2 : fs2[0]? = some (.ref a2)) (hm4 : MSE m_J7_fill_53178 d [.ref a2, .int 0] h none g4) (hP : P (.inl none) g4) : SW sc m_X3_dropEdges (d + 1) rc rs 0 [some (.ref r0)] [] h P := by
  refine sw_aload_n dX3_dropEdges_0 rfl ?_
  refine sw_getf dX3_dropEdges_1 lf_X3_9 hc2 hv2 ?_
  refine sw_iconst (v := 0) dX3_dropEdges_4 (by decide) ?_
  refine sw_cS (M := m_X3_dropEdges) dX3_dropEdges_5 ls_X3_22 hm4 rfl rfl (Nat.le_of_ble_eq_true rfl) (fun _ _ => rfl) rfl ?_
  show SW sc m_X3_dropEdges _ _ _ 8 [some (.ref r0)] [] g4 P
  exact sw_ret (v := none) dX3_dropEdges_8 rt_v hP
theorem b_X3_copy_0 {r0 : Nat} {r1 : Nat} {fs3 : List Value} {x3 : Int32} {fs4 : List Value} {fs6 : List Value} {a6 : Nat} {fs9 : List Value} {a9 : Nat} {vf12 vg12 : List Value} {fs14 : List Value} {a14 : Nat} {fs17 : List Value} {a17 : Nat} {vf20 vg20 : List Value} (hc3 : (h)[r1]? = some (3, fs3)) (hv3 : fs3[2]? = some (.int x3)) (hc4 : (h)[r0]? = some (3, fs4)) (hk4 : 2 < fs4.length) (hc6 : ((h).set r0 (3, fs4.set 2 (.int x3)))[r1]? = some (3, fs6)) (hv6 : fs6[0]? = some (.ref a6)) (hc9 : ((h).set r0 (3, fs4.set 2 (.int x3)))[r0]? = some (3, fs9)) (hv9 : fs9[0]? = some (.ref a9)) (ha12 : ((h).set r0 (3, fs4.set 2 (.int x3)))[a6]? = some (100, vf12)) (hb12 : ((h).set r0 (3, fs4.set 2 (.int x3)))[a9]? = some (100, vg12)) (hf12 : ∀ v ∈ vf12, ∃ x, v = .int x) (hg12 : ∀ v ∈ vg12, ∃ x, v = .int x) (h412 : (0 : Int32).toNatClampNeg + (10 : Int32).toNatClampNeg ≤ vf12.length) (h512 : (0 : Int32).toNatClampNeg + (10 : Int32).toNatClampNeg ≤ vg12.length) (hc14 : (((h).set r0 (3, fs4.set 2 (.int x3))).set a9 (100, ab_cpyL vf12 vg12 (0 : Int32).toNatClampNeg (0 : Int32).toNatClampNeg (10 : Int32).toNatClampNeg))[r1]? = some (3, fs14)) (hv14 : fs14[1]? = some (.ref a14)) (hc17 : (((h).set r0 (3, fs4.set 2 (.int x3))).set a9 (100, ab_cpyL vf12 vg12 (0 : Int32).toNatClampNeg (0 : Int32).toNatClampNeg (10 : Int32).toNatClampNeg))[r0]? = some (3, fs17)) (hv17 : fs17[1]? = some (.ref a17)) (ha20 : (((h).set r0 (3, fs4.set 2 (.int x3))).set a9 (100, ab_cpyL vf12 vg12 (0 : Int32).toNatClampNeg (0 : Int32).toNatClampNeg (10 : Int32).toNatClampNeg))[a14]? = some (100, vf20)) (hb20 : (((h).set r0 (3, fs4.set 2 (.int x3))).set a9 (100, ab_cpyL vf12 vg12 (0 : Int32).toNatClampNeg (0 : Int32).toNatClampNeg (10 : Int32).toNatClampNeg))[a17]? = some (100, vg20)) (hf20 : ∀ v ∈ vf20, ∃ x, v = .int x) (hg20 : ∀ v ∈ vg20, ∃ x, v = .int x) (h420 : (0 : Int32).toNatClampNeg + (10 : Int32).toNatClampNeg ≤ vf20.length) (h520 : (0 : Int32).toNatClampNeg + (10 : Int32).toNatClampNeg ≤ vg20.length) (hP : P (.inl none) ((((h).set r0 (3, fs4.set 2 (.int x3))).set a9 (100, ab_cpyL vf12 vg12 (0 : Int32).toNatClampNeg (0 : Int32).toNatClampNeg (10 : Int32).toNatClampNeg)).set a17 (100, ab_cpyL vf20 vg20 (0 : Int32).toNatClampNeg (0 : Int32).toNatClampNeg (10 : Int32).toNatClampNeg))) : SW sc m_X3_copy d rc rs 0 [some (.ref r0), some (.ref r1)] [] h P := by
  refine sw_aload_n dX3_copy_0 rfl ?_
  refine sw_aload_n dX3_copy_1 rfl ?_
  refine sw_getf dX3_copy_2 lf_X3_18 hc3 hv3 ?_
  refine sw_putf dX3_copy_5 lp_X3_18 hc4 hk4 (fun _ _ => ⟨rfl, rfl⟩) ?_
  refine sw_aload_n dX3_copy_8 rfl ?_
  refine sw_getf dX3_copy_9 lf_X3_9 hc6 hv6 ?_
  refine sw_iconst (v := 0) dX3_copy_12 (by decide) ?_
  refine sw_aload_n dX3_copy_13 rfl ?_
  refine sw_getf dX3_copy_14 lf_X3_9 hc9 hv9 ?_
  refine sw_iconst (v := 0) dX3_copy_17 (by decide) ?_
  refine sw_bipush (v := 10) dX3_copy_18 (by decide) ?_
  refine sw_copy (M := m_X3_copy) dX3_copy_20 la_X3_31 ha12 hb12 hf12 hg12 (by decide) (by decide) (by decide) h412 h512 (Nat.le_of_ble_eq_true rfl) (fun _ _ => rfl) ?_
  refine sw_aload_n dX3_copy_23 rfl ?_
  refine sw_getf dX3_copy_24 lf_X3_15 hc14 hv14 ?_
  refine sw_iconst (v := 0) dX3_copy_27 (by decide) ?_
  refine sw_aload_n dX3_copy_28 rfl ?_
  refine sw_getf dX3_copy_29 lf_X3_15 hc17 hv17 ?_
  refine sw_iconst (v := 0) dX3_copy_32 (by decide) ?_
  refine sw_bipush (v := 10) dX3_copy_33 (by decide) ?_
  refine sw_copy (M := m_X3_copy) dX3_copy_35 la_X3_31 ha20 hb20 hf20 hg20 (by decide) (by decide) (by decide) h420 h520 (Nat.le_of_ble_eq_true rfl) (fun _ _ => rfl) ?_
  exact sw_ret (v := none) dX3_copy_38 rt_v hP
theorem b_X3_saveTo_0 {r0 : Nat} {r1 : Nat} {vs2 : List Value} (hc2 : (h)[r1]? = some (100, vs2)) (kt : ¬ (Int32.ofNat vs2.length) = 20 → SW sc m_X3_saveTo d rc rs 32 [none, none] [] h P) (kf : (Int32.ofNat vs2.length) = 20 → SW sc m_X3_saveTo d rc rs 7 [some (.ref r0), some (.ref r1)] [] h P) : SW sc m_X3_saveTo d rc rs 0 [some (.ref r0), some (.ref r1)] [] h P := by
  refine sw_aload_n dX3_saveTo_0 rfl ?_
  refine sw_alen dX3_saveTo_1 hc2 ?_
  refine sw_bipush (v := 20) dX3_saveTo_2 (by decide) ?_
  exact sw_icmp_ne dX3_saveTo_4 (by decide) (fun q => (sw_fg [true, true] rfl (kt q))) (fun q => (kf q))
theorem b_X3_saveTo_7 {r0 : Nat} {r1 : Nat} {fs2 : List Value} {a2 : Nat} {vf7 vg7 : List Value} {fs9 : List Value} {a9 : Nat} {vf14 vg14 : List Value} (hc2 : (h)[r0]? = some (3, fs2)) (hv2 : fs2[0]? = some (.ref a2)) (ha7 : (h)[a2]? = some (100, vf7)) (hb7 : (h)[r1]? = some (100, vg7)) (hf7 : ∀ v ∈ vf7, ∃ x, v = .int x) (hg7 : ∀ v ∈ vg7, ∃ x, v = .int x) (h47 : (0 : Int32).toNatClampNeg + (10 : Int32).toNatClampNeg ≤ vf7.length) (h57 : (0 : Int32).toNatClampNeg + (10 : Int32).toNatClampNeg ≤ vg7.length) (hc9 : ((h).set r1 (100, ab_cpyL vf7 vg7 (0 : Int32).toNatClampNeg (0 : Int32).toNatClampNeg (10 : Int32).toNatClampNeg))[r0]? = some (3, fs9)) (hv9 : fs9[1]? = some (.ref a9)) (ha14 : ((h).set r1 (100, ab_cpyL vf7 vg7 (0 : Int32).toNatClampNeg (0 : Int32).toNatClampNeg (10 : Int32).toNatClampNeg))[a9]? = some (100, vf14)) (hb14 : ((h).set r1 (100, ab_cpyL vf7 vg7 (0 : Int32).toNatClampNeg (0 : Int32).toNatClampNeg (10 : Int32).toNatClampNeg))[r1]? = some (100, vg14)) (hf14 : ∀ v ∈ vf14, ∃ x, v = .int x) (hg14 : ∀ v ∈ vg14, ∃ x, v = .int x) (h414 : (0 : Int32).toNatClampNeg + (10 : Int32).toNatClampNeg ≤ vf14.length) (h514 : (10 : Int32).toNatClampNeg + (10 : Int32).toNatClampNeg ≤ vg14.length) (k : SW sc m_X3_saveTo d rc rs 32 [none, none] [] (((h).set r1 (100, ab_cpyL vf7 vg7 (0 : Int32).toNatClampNeg (0 : Int32).toNatClampNeg (10 : Int32).toNatClampNeg)).set r1 (100, ab_cpyL vf14 vg14 (0 : Int32).toNatClampNeg (10 : Int32).toNatClampNeg (10 : Int32).toNatClampNeg)) P) : SW sc m_X3_saveTo d rc rs 7 [some (.ref r0), some (.ref r1)] [] h P := by
  refine sw_aload_n dX3_saveTo_7 rfl ?_
  refine sw_getf dX3_saveTo_8 lf_X3_9 hc2 hv2 ?_
  refine sw_iconst (v := 0) dX3_saveTo_11 (by decide) ?_
  refine sw_aload_n dX3_saveTo_12 rfl ?_
  refine sw_iconst (v := 0) dX3_saveTo_13 (by decide) ?_
  refine sw_bipush (v := 10) dX3_saveTo_14 (by decide) ?_
  refine sw_copy (M := m_X3_saveTo) dX3_saveTo_16 la_X3_31 ha7 hb7 hf7 hg7 (by decide) (by decide) (by decide) h47 h57 (Nat.le_of_ble_eq_true rfl) (fun _ _ => rfl) ?_
  refine sw_aload_n dX3_saveTo_19 rfl ?_
  refine sw_getf dX3_saveTo_20 lf_X3_15 hc9 hv9 ?_
  refine sw_iconst (v := 0) dX3_saveTo_23 (by decide) ?_
  refine sw_aload_n dX3_saveTo_24 rfl ?_
  refine sw_bipush (v := 10) dX3_saveTo_25 (by decide) ?_
  refine sw_bipush (v := 10) dX3_saveTo_27 (by decide) ?_
  refine sw_copy (M := m_X3_saveTo) dX3_saveTo_29 la_X3_31 ha14 hb14 hf14 hg14 (by decide) (by decide) (by decide) h414 h514 (Nat.le_of_ble_eq_true rfl) (fun _ _ => rfl) ?_
  exact (sw_fg [true, true] rfl (k))
theorem b_X3_saveTo_32  (hP : P (.inl none) h) : SW sc m_X3_saveTo d rc rs 32 [none, none] [] h P := by
  exact sw_ret (v := none) dX3_saveTo_32 rt_v hP
theorem b_X3_bringFrom_0 {r0 : Nat} {r1 : Nat} {vs2 : List Value} (hc2 : (h)[r1]? = some (100, vs2)) (kt : ¬ (Int32.ofNat vs2.length) = 20 → SW sc m_X3_bringFrom d rc rs 32 [none, none] [] h P) (kf : (Int32.ofNat vs2.length) = 20 → SW sc m_X3_bringFrom d rc rs 7 [some (.ref r0), some (.ref r1)] [] h P) : SW sc m_X3_bringFrom d rc rs 0 [some (.ref r0), some (.ref r1)] [] h P := by
  refine sw_aload_n dX3_bringFrom_0 rfl ?_
  refine sw_alen dX3_bringFrom_1 hc2 ?_
  refine sw_bipush (v := 20) dX3_bringFrom_2 (by decide) ?_
  exact sw_icmp_ne dX3_bringFrom_4 (by decide) (fun q => (sw_fg [true, true] rfl (kt q))) (fun q => (kf q))
theorem b_X3_bringFrom_7 {r0 : Nat} {r1 : Nat} {fs4 : List Value} {a4 : Nat} {vf7 vg7 : List Value} {fs11 : List Value} {a11 : Nat} {vf14 vg14 : List Value} (hc4 : (h)[r0]? = some (3, fs4)) (hv4 : fs4[0]? = some (.ref a4)) (ha7 : (h)[r1]? = some (100, vf7)) (hb7 : (h)[a4]? = some (100, vg7)) (hf7 : ∀ v ∈ vf7, ∃ x, v = .int x) (hg7 : ∀ v ∈ vg7, ∃ x, v = .int x) (h47 : (0 : Int32).toNatClampNeg + (10 : Int32).toNatClampNeg ≤ vf7.length) (h57 : (0 : Int32).toNatClampNeg + (10 : Int32).toNatClampNeg ≤ vg7.length) (hc11 : ((h).set a4 (100, ab_cpyL vf7 vg7 (0 : Int32).toNatClampNeg (0 : Int32).toNatClampNeg (10 : Int32).toNatClampNeg))[r0]? = some (3, fs11)) (hv11 : fs11[1]? = some (.ref a11)) (ha14 : ((h).set a4 (100, ab_cpyL vf7 vg7 (0 : Int32).toNatClampNeg (0 : Int32).toNatClampNeg (10 : Int32).toNatClampNeg))[r1]? = some (100, vf14)) (hb14 : ((h).set a4 (100, ab_cpyL vf7 vg7 (0 : Int32).toNatClampNeg (0 : Int32).toNatClampNeg (10 : Int32).toNatClampNeg))[a11]? = some (100, vg14)) (hf14 : ∀ v ∈ vf14, ∃ x, v = .int x) (hg14 : ∀ v ∈ vg14, ∃ x, v = .int x) (h414 : (10 : Int32).toNatClampNeg + (10 : Int32).toNatClampNeg ≤ vf14.length) (h514 : (0 : Int32).toNatClampNeg + (10 : Int32).toNatClampNeg ≤ vg14.length) (k : SW sc m_X3_bringFrom d rc rs 32 [none, none] [] (((h).set a4 (100, ab_cpyL vf7 vg7 (0 : Int32).toNatClampNeg (0 : Int32).toNatClampNeg (10 : Int32).toNatClampNeg)).set a11 (100, ab_cpyL vf14 vg14 (10 : Int32).toNatClampNeg (0 : Int32).toNatClampNeg (10 : Int32).toNatClampNeg)) P) : SW sc m_X3_bringFrom d rc rs 7 [some (.ref r0), some (.ref r1)] [] h P := by
  refine sw_aload_n dX3_bringFrom_7 rfl ?_
  refine sw_iconst (v := 0) dX3_bringFrom_8 (by decide) ?_
  refine sw_aload_n dX3_bringFrom_9 rfl ?_
  refine sw_getf dX3_bringFrom_10 lf_X3_9 hc4 hv4 ?_
  refine sw_iconst (v := 0) dX3_bringFrom_13 (by decide) ?_
  refine sw_bipush (v := 10) dX3_bringFrom_14 (by decide) ?_
  refine sw_copy (M := m_X3_bringFrom) dX3_bringFrom_16 la_X3_31 ha7 hb7 hf7 hg7 (by decide) (by decide) (by decide) h47 h57 (Nat.le_of_ble_eq_true rfl) (fun _ _ => rfl) ?_
  refine sw_aload_n dX3_bringFrom_19 rfl ?_
  refine sw_bipush (v := 10) dX3_bringFrom_20 (by decide) ?_
  refine sw_aload_n dX3_bringFrom_22 rfl ?_
  refine sw_getf dX3_bringFrom_23 lf_X3_15 hc11 hv11 ?_
  refine sw_iconst (v := 0) dX3_bringFrom_26 (by decide) ?_
  refine sw_bipush (v := 10) dX3_bringFrom_27 (by decide) ?_
  refine sw_copy (M := m_X3_bringFrom) dX3_bringFrom_29 la_X3_31 ha14 hb14 hf14 hg14 (by decide) (by decide) (by decide) h414 h514 (Nat.le_of_ble_eq_true rfl) (fun _ _ => rfl) ?_
  exact (sw_fg [true, true] rfl (k))
theorem b_X3_bringFrom_32  (hP : P (.inl none) h) : SW sc m_X3_bringFrom d rc rs 32 [none, none] [] h P := by
  exact sw_ret (v := none) dX3_bringFrom_32 rt_v hP
theorem b_X3_edgesNotIn_0 {r0 : Nat} {r1 : Nat} (k : SW sc m_X3_edgesNotIn d rc rs 4 [some (.ref r0), some (.ref r1), some (.int 0), some (.int 0)] [] h P) : SW sc m_X3_edgesNotIn d rc rs 0 [some (.ref r0), some (.ref r1), none, none] [] h P := by
  refine sw_iconst (v := 0) dX3_edgesNotIn_0 (by decide) ?_
  refine sw_istore_n dX3_edgesNotIn_1 (by decide) rfl ?_
  show SW sc m_X3_edgesNotIn _ _ _ 2 [some (.ref r0), some (.ref r1), some (.int 0), none] [] h P
  refine sw_iconst (v := 0) dX3_edgesNotIn_2 (by decide) ?_
  refine sw_istore_n dX3_edgesNotIn_3 (by decide) rfl ?_
  show SW sc m_X3_edgesNotIn _ _ _ 4 [some (.ref r0), some (.ref r1), some (.int 0), some (.int 0)] [] h P
  exact (k)
theorem b_X3_edgesNotIn_4 {r0 : Nat} {r1 : Nat} {l2 : Int32} {l3 : Int32} {fs3 : List Value} {x3 : Int32} (hc3 : (h)[r0]? = some (3, fs3)) (hv3 : fs3[2]? = some (.int x3)) (kt : x3 ≤ l3 → SW sc m_X3_edgesNotIn d rc rs 42 [none, none, some (.int l2), none] [] h P) (kf : ¬ (x3 ≤ l3) → SW sc m_X3_edgesNotIn d rc rs 12 [some (.ref r0), some (.ref r1), some (.int l2), some (.int l3)] [] h P) : SW sc m_X3_edgesNotIn d rc rs 4 [some (.ref r0), some (.ref r1), some (.int l2), some (.int l3)] [] h P := by
  refine sw_iload_n dX3_edgesNotIn_4 rfl ?_
  refine sw_aload_n dX3_edgesNotIn_5 rfl ?_
  refine sw_getf dX3_edgesNotIn_6 lf_X3_18 hc3 hv3 ?_
  exact sw_icmp_ge dX3_edgesNotIn_9 (by decide) (fun q => (sw_fg [true, true, false, true] rfl (kt q))) (fun q => (kf q))
theorem b_X3_edgesNotIn_12 {r0 : Nat} {r1 : Nat} {l2 : Int32} {l3 : Int32} {vs3 : List Value} (hc3 : (h)[r1]? = some (100, vs3)) (kt : (Int32.ofNat vs3.length) ≤ l3 → SW sc m_X3_edgesNotIn d rc rs 42 [none, none, some (.int l2), none] [] h P) (kf : ¬ ((Int32.ofNat vs3.length) ≤ l3) → SW sc m_X3_edgesNotIn d rc rs 18 [some (.ref r0), some (.ref r1), some (.int l2), some (.int l3)] [] h P) : SW sc m_X3_edgesNotIn d rc rs 12 [some (.ref r0), some (.ref r1), some (.int l2), some (.int l3)] [] h P := by
  refine sw_iload_n dX3_edgesNotIn_12 rfl ?_
  refine sw_aload_n dX3_edgesNotIn_13 rfl ?_
  refine sw_alen dX3_edgesNotIn_14 hc3 ?_
  exact sw_icmp_ge dX3_edgesNotIn_15 (by decide) (fun q => (sw_fg [true, true, false, true] rfl (kt q))) (fun q => (kf q))
theorem b_X3_edgesNotIn_18 {r0 : Nat} {r1 : Nat} {l2 : Int32} {l3 : Int32} {fs3 : List Value} {a3 : Nat} {vs5 : List Value} {x5 : Int32} {vs8 : List Value} {x8 : Int32} {v12 : Int32} {g12 : ab_H} (hc3 : (h)[r0]? = some (3, fs3)) (hv3 : fs3[0]? = some (.ref a3)) (hc5 : (h)[a3]? = some (100, vs5)) (ho5 : ¬ l3 < 0) (hi5 : vs5[l3.toNatClampNeg]? = some (.int x5)) (hc8 : (h)[r1]? = some (100, vs8)) (ho8 : ¬ l3 < 0) (hi8 : vs8[l3.toNatClampNeg]? = some (.int x8)) (hm12 : MSE m_J6_bitCount_0f7a4 d [.int (x5 &&& (x8 ^^^ (-1)))] h (some (.int v12)) g12) (k : SW sc m_X3_edgesNotIn (d + 1) rc rs 4 [some (.ref r0), some (.ref r1), some (.int (l2 + v12)), some (.int (l3 + 1))] [] g12 P) : SW sc m_X3_edgesNotIn (d + 1) rc rs 18 [some (.ref r0), some (.ref r1), some (.int l2), some (.int l3)] [] h P := by
  refine sw_iload_n dX3_edgesNotIn_18 rfl ?_
  refine sw_aload_n dX3_edgesNotIn_19 rfl ?_
  refine sw_getf dX3_edgesNotIn_20 lf_X3_9 hc3 hv3 ?_
  refine sw_iload_n dX3_edgesNotIn_23 rfl ?_
  refine sw_iald dX3_edgesNotIn_24 hc5 ho5 hi5 ?_
  refine sw_aload_n dX3_edgesNotIn_25 rfl ?_
  refine sw_iload_n dX3_edgesNotIn_26 rfl ?_
  refine sw_iald dX3_edgesNotIn_27 hc8 ho8 hi8 ?_
  refine sw_iconst (v := (-1)) dX3_edgesNotIn_28 (by decide) ?_
  refine sw_ixor dX3_edgesNotIn_29 ?_
  refine sw_iand dX3_edgesNotIn_30 ?_
  refine sw_cS (M := m_X3_edgesNotIn) dX3_edgesNotIn_31 ls_X3_37 hm12 rfl rfl (Nat.le_of_ble_eq_true rfl) (fun _ _ => rfl) rfl ?_
  show SW sc m_X3_edgesNotIn _ _ _ 34 [some (.ref r0), some (.ref r1), some (.int l2), some (.int l3)] [.int v12, .int l2] g12 P
  refine sw_iadd dX3_edgesNotIn_34 ?_
  refine sw_istore_n dX3_edgesNotIn_35 (by decide) rfl ?_
  show SW sc m_X3_edgesNotIn _ _ _ 36 [some (.ref r0), some (.ref r1), some (.int (l2 + v12)), some (.int l3)] [] g12 P
  refine sw_iinc (v := l3 + 1) dX3_edgesNotIn_36 rfl rfl (by decide) rfl ?_
  show SW sc m_X3_edgesNotIn _ _ _ 39 [some (.ref r0), some (.ref r1), some (.int (l2 + v12)), some (.int (l3 + 1))] [] g12 P
  exact sw_goto dX3_edgesNotIn_39 (by decide) (k)
theorem b_X3_edgesNotIn_42 {l2 : Int32} (hz3 : ¬ (2 : Int32) = 0) (hP : P (.inl (some (.int (l2 / 2)))) h) : SW sc m_X3_edgesNotIn d rc rs 42 [none, none, some (.int l2), none] [] h P := by
  refine sw_iload_n dX3_edgesNotIn_42 rfl ?_
  refine sw_iconst (v := 2) dX3_edgesNotIn_43 (by decide) ?_
  refine sw_idiv dX3_edgesNotIn_44 hz3 ?_
  exact sw_ret (v := (some (.int (l2 / 2)))) dX3_edgesNotIn_45 rt_i hP
theorem b_X3_isVertex_0 {r0 : Nat} {l1 : Int32} (kt : l1 < 0 → SW sc m_X3_isVertex d rc rs 16 [none, none] [] h P) (kf : ¬ (l1 < 0) → SW sc m_X3_isVertex d rc rs 4 [some (.ref r0), some (.int l1)] [] h P) : SW sc m_X3_isVertex d rc rs 0 [some (.ref r0), some (.int l1)] [] h P := by
  refine sw_iload_n dX3_isVertex_0 rfl ?_
  exact sw_if_lt dX3_isVertex_1 (by decide) (fun q => (sw_fg [true, true] rfl (kt q))) (fun q => (kf q))
theorem b_X3_isVertex_4 {r0 : Nat} {l1 : Int32} {fs3 : List Value} {x3 : Int32} (hc3 : (h)[r0]? = some (3, fs3)) (hv3 : fs3[2]? = some (.int x3)) (kt : x3 ≤ l1 → SW sc m_X3_isVertex d rc rs 16 [none, none] [] h P) (kf : ¬ (x3 ≤ l1) → SW sc m_X3_isVertex d rc rs 12 [none, none] [] h P) : SW sc m_X3_isVertex d rc rs 4 [some (.ref r0), some (.int l1)] [] h P := by
  refine sw_iload_n dX3_isVertex_4 rfl ?_
  refine sw_aload_n dX3_isVertex_5 rfl ?_
  refine sw_getf dX3_isVertex_6 lf_X3_18 hc3 hv3 ?_
  exact sw_icmp_ge dX3_isVertex_9 (by decide) (fun q => (sw_fg [true, true] rfl (kt q))) (fun q => (sw_fg [true, true] rfl (kf q)))
theorem b_X3_isVertex_12  (k : SW sc m_X3_isVertex d rc rs 17 [none, none] [.int 1] h P) : SW sc m_X3_isVertex d rc rs 12 [none, none] [] h P := by
  refine sw_iconst (v := 1) dX3_isVertex_12 (by decide) ?_
  exact sw_goto dX3_isVertex_13 (by decide) (k)
theorem b_X3_isVertex_16  (k : SW sc m_X3_isVertex d rc rs 17 [none, none] [.int 0] h P) : SW sc m_X3_isVertex d rc rs 16 [none, none] [] h P := by
  refine sw_iconst (v := 0) dX3_isVertex_16 (by decide) ?_
  exact (k)
theorem b_X3_isVertex_17 {s0 : Int32} (hz1 : narrow .boolean (.int s0) = .int s0) (hP : P (.inl (some (.int s0))) h) : SW sc m_X3_isVertex d rc rs 17 [none, none] [.int s0] h P := by
  exact sw_ret (v := (some (.int s0))) dX3_isVertex_17 (rt_n hz1) hP
theorem b_X3_all_0 {r0 : Nat} {fs3 : List Value} {x3 : Int32} (hc3 : (h)[r0]? = some (3, fs3)) (hv3 : fs3[2]? = some (.int x3)) (hP : P (.inl (some (.int ((1 <<< (x3 &&& 31)) - 1)))) h) : SW sc m_X3_all d rc rs 0 [some (.ref r0)] [] h P := by
  refine sw_iconst (v := 1) dX3_all_0 (by decide) ?_
  refine sw_aload_n dX3_all_1 rfl ?_
  refine sw_getf dX3_all_2 lf_X3_18 hc3 hv3 ?_
  refine sw_ishl dX3_all_5 ?_
  refine sw_iconst (v := 1) dX3_all_6 (by decide) ?_
  refine sw_isub dX3_all_7 ?_
  exact sw_ret (v := (some (.int ((1 <<< (x3 &&& 31)) - 1)))) dX3_all_8 rt_i hP
end
