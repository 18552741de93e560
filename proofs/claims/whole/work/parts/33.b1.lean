section
variable {sc : Option (List Int32)} {d rc rs : Nat} {h : ab_H} {P : ab_O → ab_H → Prop}
theorem b_X8_symmetriesOf_0 {r0 : Nat} {r1 : Nat} {l2 : Int32} {v2 : Int32} {g2 : ab_H} (hm2 : MSE m_X9_lowest d [.int l2] h (some (.int v2)) g2) (kt : ¬ v2 = (-1) → SW sc m_X8_symmetriesOf (d + 1) rc rs 12 [some (.ref r0), some (.ref r1), none, some (.int v2), none] [] g2 P) (kf : v2 = (-1) → SW sc m_X8_symmetriesOf (d + 1) rc rs 10 [none, none, none, none, none] [] g2 P) : SW sc m_X8_symmetriesOf (d + 1) rc rs 0 [some (.ref r0), some (.ref r1), some (.int l2), none, none] [] h P := by
  refine sw_iload_n dX8_symmetriesOf_0 rfl ?_
  refine sw_cS (M := m_X8_symmetriesOf) dX8_symmetriesOf_1 ls_X8_75 hm2 rfl rfl (Nat.le_of_ble_eq_true rfl) (fun _ _ => rfl) rfl ?_
  show SW sc m_X8_symmetriesOf _ _ _ 4 [some (.ref r0), some (.ref r1), some (.int l2), none, none] [.int v2] g2 P
  refine sw_istore_n dX8_symmetriesOf_4 (by decide) rfl ?_
  show SW sc m_X8_symmetriesOf _ _ _ 5 [some (.ref r0), some (.ref r1), some (.int l2), some (.int v2), none] [] g2 P
  refine sw_iload_n dX8_symmetriesOf_5 rfl ?_
  refine sw_iconst (v := (-1)) dX8_symmetriesOf_6 (by decide) ?_
  exact sw_icmp_ne dX8_symmetriesOf_7 (by decide) (fun q => (sw_fg [false, false, true, false, false] rfl (kt q))) (fun q => (sw_fg [true, true, true, true, false] rfl (kf q)))
theorem b_X8_symmetriesOf_10  (hP : P (.inl (some (.int 0))) h) : SW sc m_X8_symmetriesOf d rc rs 10 [none, none, none, none, none] [] h P := by
  refine sw_iconst (v := 0) dX8_symmetriesOf_10 (by decide) ?_
  exact sw_ret (v := (some (.int 0))) dX8_symmetriesOf_11 rt_i hP
theorem b_X8_symmetriesOf_12 {r0 : Nat} {r1 : Nat} {l3 : Int32} {v4 : Int32} {g4 : ab_H} {fs4 : List Value} {v5 : Int32} {g5 : ab_H} {v10 : Int32} {g10 : ab_H} {fs10 : List Value} {fs14 : List Value} {a14 : Nat} {vs16 : List Value} {x16 : Int32} (hr4 : (h)[r0]? = some (8, fs4)) (hm4 : MSE m_X8_orbitOf d [.ref r0, .ref r1, .int l3] h (some (.int v4)) g4) (hm5 : MSE m_J6_bitCount_0f7a4 d [.int v4] g4 (some (.int v5)) g5) (hr10 : (g5)[r0]? = some (8, fs10)) (hm10 : MSE m_X8_wordFrom d [.ref r0, .ref r1, .int l3] g5 (some (.int v10)) g10) (hc14 : (g10)[r0]? = some (8, fs14)) (hv14 : fs14[4]? = some (.ref a14)) (hc16 : (g10)[a14]? = some (100, vs16)) (ho16 : ¬ l3 < 0) (hi16 : vs16[l3.toNatClampNeg]? = some (.int x16)) (hP : P (.inl (some (.int (v5 * x16)))) g10) : SW sc m_X8_symmetriesOf (d + 1) rc rs 12 [some (.ref r0), some (.ref r1), none, some (.int l3), none] [] h P := by
  refine sw_aload_n dX8_symmetriesOf_12 rfl ?_
  refine sw_aload_n dX8_symmetriesOf_13 rfl ?_
  refine sw_iload_n dX8_symmetriesOf_14 rfl ?_
  refine sw_cV (M := m_X8_symmetriesOf) dX8_symmetriesOf_15 lv_X8_95 hm4 hr4 rfl (by decide) rfl rfl rfl (Nat.le_of_ble_eq_true rfl) (fun _ _ => rfl) rfl ?_
  show SW sc m_X8_symmetriesOf _ _ _ 18 [some (.ref r0), some (.ref r1), none, some (.int l3), none] [.int v4] g4 P
  refine sw_cS (M := m_X8_symmetriesOf) dX8_symmetriesOf_18 ls_X8_87 hm5 rfl rfl (Nat.le_of_ble_eq_true rfl) (fun _ _ => rfl) rfl ?_
  show SW sc m_X8_symmetriesOf _ _ _ 21 [some (.ref r0), some (.ref r1), none, some (.int l3), none] [.int v5] g5 P
  refine sw_istore dX8_symmetriesOf_21 (by decide) rfl ?_
  show SW sc m_X8_symmetriesOf _ _ _ 23 [some (.ref r0), some (.ref r1), none, some (.int l3), some (.int v5)] [] g5 P
  refine sw_aload_n dX8_symmetriesOf_23 rfl ?_
  refine sw_aload_n dX8_symmetriesOf_24 rfl ?_
  refine sw_iload_n dX8_symmetriesOf_25 rfl ?_
  refine sw_cV (M := m_X8_symmetriesOf) dX8_symmetriesOf_26 lv_X8_78 hm10 hr10 rfl (by decide) rfl rfl rfl (Nat.le_of_ble_eq_true rfl) (fun _ _ => rfl) rfl ?_
  show SW sc m_X8_symmetriesOf _ _ _ 29 [some (.ref r0), some (.ref r1), none, some (.int l3), some (.int v5)] [.int v10] g10 P
  refine sw_pop dX8_symmetriesOf_29 (fun _ _ => rfl) ?_
  refine sw_iload dX8_symmetriesOf_30 rfl ?_
  refine sw_aload_n dX8_symmetriesOf_32 rfl ?_
  refine sw_getf dX8_symmetriesOf_33 lf_X8_24 hc14 hv14 ?_
  refine sw_iload_n dX8_symmetriesOf_36 rfl ?_
  refine sw_iald dX8_symmetriesOf_37 hc16 ho16 hi16 ?_
  refine sw_imul dX8_symmetriesOf_38 ?_
  exact sw_ret (v := (some (.int (v5 * x16)))) dX8_symmetriesOf_39 rt_i hP
theorem b_X8_classOf_0 {r0 : Nat} {r1 : Nat} {l2 : Int32} {fs2 : List Value} {a2 : Nat} {g3 : ab_H} {fs3 : List Value} (hc2 : (h)[r0]? = some (8, fs2)) (hv2 : fs2[5]? = some (.ref a2)) (hr3 : (h)[a2]? = some (4, fs3)) (hm3 : MSE m_X4_forget d [.ref a2] h none g3) (k : SW sc m_X8_classOf (d + 1) rc rs 12 [some (.ref r0), some (.ref r1), some (.int l2), some (.int (-1)), some (.int 0)] [] g3 P) : SW sc m_X8_classOf (d + 1) rc rs 0 [some (.ref r0), some (.ref r1), some (.int l2), none, none] [] h P := by
  refine sw_aload_n dX8_classOf_0 rfl ?_
  refine sw_getf dX8_classOf_1 lf_X8_30 hc2 hv2 ?_
  refine sw_cV (M := m_X8_classOf) dX8_classOf_4 lv_X8_98 hm3 hr3 rfl (by decide) rfl rfl rfl (Nat.le_of_ble_eq_true rfl) (fun _ _ => rfl) rfl ?_
  show SW sc m_X8_classOf _ _ _ 7 [some (.ref r0), some (.ref r1), some (.int l2), none, none] [] g3 P
  refine sw_iconst (v := (-1)) dX8_classOf_7 (by decide) ?_
  refine sw_istore_n dX8_classOf_8 (by decide) rfl ?_
  show SW sc m_X8_classOf _ _ _ 9 [some (.ref r0), some (.ref r1), some (.int l2), some (.int (-1)), none] [] g3 P
  refine sw_iconst (v := 0) dX8_classOf_9 (by decide) ?_
  refine sw_istore dX8_classOf_10 (by decide) rfl ?_
  show SW sc m_X8_classOf _ _ _ 12 [some (.ref r0), some (.ref r1), some (.int l2), some (.int (-1)), some (.int 0)] [] g3 P
  exact (k)
theorem b_X8_classOf_12 {r0 : Nat} {r1 : Nat} {l2 : Int32} {l3 : Int32} {l4 : Int32} (kt : l2 < l4 → SW sc m_X8_classOf d rc rs 50 [none, none, none, some (.int l3), none] [] h P) (kf : ¬ (l2 < l4) → SW sc m_X8_classOf d rc rs 18 [some (.ref r0), some (.ref r1), some (.int l2), some (.int l3), some (.int l4)] [] h P) : SW sc m_X8_classOf d rc rs 12 [some (.ref r0), some (.ref r1), some (.int l2), some (.int l3), some (.int l4)] [] h P := by
  refine sw_iload dX8_classOf_12 rfl ?_
  refine sw_iload_n dX8_classOf_14 rfl ?_
  exact sw_icmp_gt dX8_classOf_15 (by decide) (fun q => (sw_fg [true, true, true, false, true] rfl (kt q))) (fun q => (kf q))
theorem b_X8_classOf_18 {r0 : Nat} {r1 : Nat} {l2 : Int32} {l3 : Int32} {l4 : Int32} (kt : 10 ≤ l4 → SW sc m_X8_classOf d rc rs 50 [none, none, none, some (.int l3), none] [] h P) (kf : ¬ (10 ≤ l4) → SW sc m_X8_classOf d rc rs 25 [some (.ref r0), some (.ref r1), some (.int l2), none, some (.int l4)] [] h P) : SW sc m_X8_classOf d rc rs 18 [some (.ref r0), some (.ref r1), some (.int l2), some (.int l3), some (.int l4)] [] h P := by
  refine sw_iload dX8_classOf_18 rfl ?_
  refine sw_bipush (v := 10) dX8_classOf_20 (by decide) ?_
  exact sw_icmp_ge dX8_classOf_22 (by decide) (fun q => (sw_fg [true, true, true, false, true] rfl (kt q))) (fun q => (sw_fg [false, false, false, true, false] rfl (kf q)))
theorem b_X8_classOf_25 {r0 : Nat} {r1 : Nat} {l2 : Int32} {l4 : Int32} {fs2 : List Value} {a2 : Nat} {v7 : Int32} {g7 : ab_H} {fs7 : List Value} {v8 : Int32} {g8 : ab_H} {fs8 : List Value} {v9 : Int32} {g9 : ab_H} {fs9 : List Value} (hc2 : (h)[r0]? = some (8, fs2)) (hv2 : fs2[5]? = some (.ref a2)) (hr7 : (h)[r1]? = some (3, fs7)) (hm7 : MSE m_X3_componentSet d [.ref r1, .int l4] h (some (.int v7)) g7) (hr8 : (g7)[r0]? = some (8, fs8)) (hm8 : MSE m_X8_wordOf d [.ref r0, .ref r1, .int v7] g7 (some (.int v8)) g8) (hr9 : (g8)[a2]? = some (4, fs9)) (hm9 : MSE m_X4_numberOf d [.ref a2, .int v8] g8 (some (.int v9)) g9) (k : SW sc m_X8_classOf (d + 1) rc rs 12 [some (.ref r0), some (.ref r1), some (.int l2), some (.int v9), some (.int (l4 + 1))] [] g9 P) : SW sc m_X8_classOf (d + 1) rc rs 25 [some (.ref r0), some (.ref r1), some (.int l2), none, some (.int l4)] [] h P := by
  refine sw_aload_n dX8_classOf_25 rfl ?_
  refine sw_getf dX8_classOf_26 lf_X8_30 hc2 hv2 ?_
  refine sw_aload_n dX8_classOf_29 rfl ?_
  refine sw_aload_n dX8_classOf_30 rfl ?_
  refine sw_aload_n dX8_classOf_31 rfl ?_
  refine sw_iload dX8_classOf_32 rfl ?_
  refine sw_cV (M := m_X8_classOf) dX8_classOf_34 lv_X8_101 hm7 hr7 rfl (by decide) rfl rfl rfl (Nat.le_of_ble_eq_true rfl) (fun _ _ => rfl) rfl ?_
  show SW sc m_X8_classOf _ _ _ 37 [some (.ref r0), some (.ref r1), some (.int l2), none, some (.int l4)] [.int v7, .ref r1, .ref r0, .ref a2] g7 P
  refine sw_cV (M := m_X8_classOf) dX8_classOf_37 lv_X8_104 hm8 hr8 rfl (by decide) rfl rfl rfl (Nat.le_of_ble_eq_true rfl) (fun _ _ => rfl) rfl ?_
  show SW sc m_X8_classOf _ _ _ 40 [some (.ref r0), some (.ref r1), some (.int l2), none, some (.int l4)] [.int v8, .ref a2] g8 P
  refine sw_cV (M := m_X8_classOf) dX8_classOf_40 lv_X8_107 hm9 hr9 rfl (by decide) rfl rfl rfl (Nat.le_of_ble_eq_true rfl) (fun _ _ => rfl) rfl ?_
  show SW sc m_X8_classOf _ _ _ 43 [some (.ref r0), some (.ref r1), some (.int l2), none, some (.int l4)] [.int v9] g9 P
  refine sw_istore_n dX8_classOf_43 (by decide) rfl ?_
  show SW sc m_X8_classOf _ _ _ 44 [some (.ref r0), some (.ref r1), some (.int l2), some (.int v9), some (.int l4)] [] g9 P
  refine sw_iinc (v := l4 + 1) dX8_classOf_44 rfl rfl (by decide) rfl ?_
  show SW sc m_X8_classOf _ _ _ 47 [some (.ref r0), some (.ref r1), some (.int l2), some (.int v9), some (.int (l4 + 1))] [] g9 P
  exact sw_goto dX8_classOf_47 (by decide) (k)
theorem b_X8_classOf_50 {l3 : Int32} (hP : P (.inl (some (.int l3))) h) : SW sc m_X8_classOf d rc rs 50 [none, none, none, some (.int l3), none] [] h P := by
  refine sw_iload_n dX8_classOf_50 rfl ?_
  exact sw_ret (v := (some (.int l3))) dX8_classOf_51 rt_i hP
theorem b_X9_append_0 {r0 : Nat} {l1 : Int32} {l2 : Int32} {l3 : Int32} {l4 : Int32} {l5 : Int32} {fs2 : List Value} {a2 : Nat} {fs3 : List Value} {a3 : Nat} {fs6 : List Value} {x6 : Int32} (hc2 : (h)[r0]? = some (9, fs2)) (hv2 : fs2[0]? = some (.ref a2)) (hc3 : (h)[a2]? = some (6, fs3)) (hv3 : fs3[0]? = some (.ref a3)) (hc6 : (h)[a3]? = some (0, fs6)) (hv6 : fs6[1]? = some (.int x6)) (kt : (x6 + 20) ≤ 400 → SW sc m_X9_append d rc rs 25 [none, some (.int l1), some (.int l2), some (.int l3), some (.int l4), some (.int l5), some (.ref a3)] [] h P) (kf : ¬ ((x6 + 20) ≤ 400) → SW sc m_X9_append d rc rs 23 [none, none, none, none, none, none, none] [] h P) : SW sc m_X9_append d rc rs 0 [some (.ref r0), some (.int l1), some (.int l2), some (.int l3), some (.int l4), some (.int l5), none] [] h P := by
  refine sw_aload_n dX9_append_0 rfl ?_
  refine sw_getf dX9_append_1 lf_X9_12 hc2 hv2 ?_
  refine sw_getf dX9_append_4 lf_X9_72 hc3 hv3 ?_
  refine sw_astore dX9_append_7 (by decide) rfl ?_
  show SW sc m_X9_append _ _ _ 9 [some (.ref r0), some (.int l1), some (.int l2), some (.int l3), some (.int l4), some (.int l5), some (.ref a3)] [] h P
  refine sw_aload dX9_append_9 rfl ?_
  refine sw_getf dX9_append_11 lf_X9_75 hc6 hv6 ?_
  refine sw_bipush (v := 20) dX9_append_14 (by decide) ?_
  refine sw_iadd dX9_append_16 ?_
  refine sw_sipush (v := 400) dX9_append_17 (by decide) ?_
  exact sw_icmp_le dX9_append_20 (by decide) (fun q => (sw_fg [true, false, false, false, false, false, false] rfl (kt q))) (fun q => (sw_fg [true, true, true, true, true, true, true] rfl (kf q)))
theorem b_X9_append_23  (hP : P (.inl (some (.int (-1)))) h) : SW sc m_X9_append d rc rs 23 [none, none, none, none, none, none, none] [] h P := by
  refine sw_iconst (v := (-1)) dX9_append_23 (by decide) ?_
  exact sw_ret (v := (some (.int (-1)))) dX9_append_24 rt_i hP
theorem b_X9_append_25 {l1 : Int32} {l2 : Int32} {l3 : Int32} {l4 : Int32} {l5 : Int32} {r6 : Nat} {g3 : ab_H} {fs3 : List Value} {g6 : ab_H} {fs6 : List Value} {g9 : ab_H} {fs9 : List Value} {g12 : ab_H} {fs12 : List Value} {g15 : ab_H} {fs15 : List Value} {fs17 : List Value} {x17 : Int32} (hr3 : (h)[r6]? = some (0, fs3)) (hm3 : MSE m_X0_putFour d [.ref r6, .int l1] h none g3) (hr6 : (g3)[r6]? = some (0, fs6)) (hm6 : MSE m_X0_putFour d [.ref r6, .int l2] g3 none g6) (hr9 : (g6)[r6]? = some (0, fs9)) (hm9 : MSE m_X0_putFour d [.ref r6, .int l3] g6 none g9) (hr12 : (g9)[r6]? = some (0, fs12)) (hm12 : MSE m_X0_putFour d [.ref r6, .int l4] g9 none g12) (hr15 : (g12)[r6]? = some (0, fs15)) (hm15 : MSE m_X0_putFour d [.ref r6, .int l5] g12 none g15) (hc17 : (g15)[r6]? = some (0, fs17)) (hv17 : fs17[1]? = some (.int x17)) (hP : P (.inl (some (.int x17))) g15) : SW sc m_X9_append (d + 1) rc rs 25 [none, some (.int l1), some (.int l2), some (.int l3), some (.int l4), some (.int l5), some (.ref r6)] [] h P := by
  refine sw_aload dX9_append_25 rfl ?_
  refine sw_iload_n dX9_append_27 rfl ?_
  refine sw_cV (M := m_X9_append) dX9_append_28 lv_X9_79 hm3 hr3 rfl (by decide) rfl rfl rfl (Nat.le_of_ble_eq_true rfl) (fun _ _ => rfl) rfl ?_
  show SW sc m_X9_append _ _ _ 31 [none, some (.int l1), some (.int l2), some (.int l3), some (.int l4), some (.int l5), some (.ref r6)] [] g3 P
  refine sw_aload dX9_append_31 rfl ?_
  refine sw_iload_n dX9_append_33 rfl ?_
  refine sw_cV (M := m_X9_append) dX9_append_34 lv_X9_79 hm6 hr6 rfl (by decide) rfl rfl rfl (Nat.le_of_ble_eq_true rfl) (fun _ _ => rfl) rfl ?_
  show SW sc m_X9_append _ _ _ 37 [none, some (.int l1), some (.int l2), some (.int l3), some (.int l4), some (.int l5), some (.ref r6)] [] g6 P
  refine sw_aload dX9_append_37 rfl ?_
  refine sw_iload_n dX9_append_39 rfl ?_
  refine sw_cV (M := m_X9_append) dX9_append_40 lv_X9_79 hm9 hr9 rfl (by decide) rfl rfl rfl (Nat.le_of_ble_eq_true rfl) (fun _ _ => rfl) rfl ?_
  show SW sc m_X9_append _ _ _ 43 [none, some (.int l1), some (.int l2), some (.int l3), some (.int l4), some (.int l5), some (.ref r6)] [] g9 P
  refine sw_aload dX9_append_43 rfl ?_
  refine sw_iload dX9_append_45 rfl ?_
  refine sw_cV (M := m_X9_append) dX9_append_47 lv_X9_79 hm12 hr12 rfl (by decide) rfl rfl rfl (Nat.le_of_ble_eq_true rfl) (fun _ _ => rfl) rfl ?_
  show SW sc m_X9_append _ _ _ 50 [none, some (.int l1), some (.int l2), some (.int l3), some (.int l4), some (.int l5), some (.ref r6)] [] g12 P
  refine sw_aload dX9_append_50 rfl ?_
  refine sw_iload dX9_append_52 rfl ?_
  refine sw_cV (M := m_X9_append) dX9_append_54 lv_X9_79 hm15 hr15 rfl (by decide) rfl rfl rfl (Nat.le_of_ble_eq_true rfl) (fun _ _ => rfl) rfl ?_
  show SW sc m_X9_append _ _ _ 57 [none, some (.int l1), some (.int l2), some (.int l3), some (.int l4), some (.int l5), some (.ref r6)] [] g15 P
  refine sw_aload dX9_append_57 rfl ?_
  refine sw_getf dX9_append_59 lf_X9_75 hc17 hv17 ?_
  exact sw_ret (v := (some (.int x17))) dX9_append_62 rt_i hP
theorem b_X9_truncate_0 {r0 : Nat} {l1 : Int32} {fs2 : List Value} {a2 : Nat} {fs3 : List Value} {a3 : Nat} {v5 : Int32} {g5 : ab_H} {fs5 : List Value} (hc2 : (h)[r0]? = some (9, fs2)) (hv2 : fs2[0]? = some (.ref a2)) (hc3 : (h)[a2]? = some (6, fs3)) (hv3 : fs3[0]? = some (.ref a3)) (hr5 : (h)[a3]? = some (0, fs5)) (hm5 : MSE m_X0_shorten d [.ref a3, .int l1] h (some (.int v5)) g5) (hz6 : narrow .boolean (.int v5) = .int v5) (hP : P (.inl (some (.int v5))) g5) : SW sc m_X9_truncate (d + 1) rc rs 0 [some (.ref r0), some (.int l1)] [] h P := by
  refine sw_aload_n dX9_truncate_0 rfl ?_
  refine sw_getf dX9_truncate_1 lf_X9_12 hc2 hv2 ?_
  refine sw_getf dX9_truncate_4 lf_X9_72 hc3 hv3 ?_
  refine sw_iload_n dX9_truncate_7 rfl ?_
  refine sw_cV (M := m_X9_truncate) dX9_truncate_8 lv_X9_83 hm5 hr5 rfl (by decide) rfl rfl rfl (Nat.le_of_ble_eq_true rfl) (fun _ _ => rfl) rfl ?_
  show SW sc m_X9_truncate _ _ _ 11 [some (.ref r0), some (.int l1)] [.int v5] g5 P
  exact sw_ret (v := (some (.int v5))) dX9_truncate_11 (rt_n hz6) hP
theorem b_X9_bufferLength_0 {r0 : Nat} {fs2 : List Value} {a2 : Nat} {fs3 : List Value} {a3 : Nat} {fs4 : List Value} {x4 : Int32} (hc2 : (h)[r0]? = some (9, fs2)) (hv2 : fs2[0]? = some (.ref a2)) (hc3 : (h)[a2]? = some (6, fs3)) (hv3 : fs3[0]? = some (.ref a3)) (hc4 : (h)[a3]? = some (0, fs4)) (hv4 : fs4[1]? = some (.int x4)) (hP : P (.inl (some (.int x4))) h) : SW sc m_X9_bufferLength d rc rs 0 [some (.ref r0)] [] h P := by
  refine sw_aload_n dX9_bufferLength_0 rfl ?_
  refine sw_getf dX9_bufferLength_1 lf_X9_12 hc2 hv2 ?_
  refine sw_getf dX9_bufferLength_4 lf_X9_72 hc3 hv3 ?_
  refine sw_getf dX9_bufferLength_7 lf_X9_75 hc4 hv4 ?_
  exact sw_ret (v := (some (.int x4))) dX9_bufferLength_10 rt_i hP
theorem b_X9_load_0 {r0 : Nat} {fs2 : List Value} {a2 : Nat} {v3 : Int32} {g3 : ab_H} {fs3 : List Value} {fs6 : List Value} {a6 : Nat} {fs7 : List Value} {a7 : Nat} {v9 : Int32} {g9 : ab_H} {fs9 : List Value} (hc2 : (h)[r0]? = some (9, fs2)) (hv2 : fs2[0]? = some (.ref a2)) (hr3 : (h)[a2]? = some (6, fs3)) (hm3 : MSE m_X6_readText d [.ref a2] h (some (.int v3)) g3) (hc6 : (g3)[r0]? = some (9, fs6)) (hv6 : fs6[0]? = some (.ref a6)) (hc7 : (g3)[a6]? = some (6, fs7)) (hv7 : fs7[0]? = some (.ref a7)) (hr9 : (g3)[a7]? = some (0, fs9)) (hm9 : MSE m_X0_shorten d [.ref a7, .int 0] g3 (some (.int v9)) g9) (kt : v3 = 0 → SW sc m_X9_load (d + 1) rc rs 27 [some (.ref r0), none] [] g9 P) (kf : ¬ (v3 = 0) → SW sc m_X9_load (d + 1) rc rs 24 [none, some (.int v3)] [] g9 P) : SW sc m_X9_load (d + 1) rc rs 0 [some (.ref r0), none] [] h P := by
  refine sw_aload_n dX9_load_0 rfl ?_
  refine sw_getf dX9_load_1 lf_X9_12 hc2 hv2 ?_
  refine sw_cV (M := m_X9_load) dX9_load_4 lv_X9_87 hm3 hr3 rfl (by decide) rfl rfl rfl (Nat.le_of_ble_eq_true rfl) (fun _ _ => rfl) rfl ?_
  show SW sc m_X9_load _ _ _ 7 [some (.ref r0), none] [.int v3] g3 P
  refine sw_istore_n dX9_load_7 (by decide) rfl ?_
  show SW sc m_X9_load _ _ _ 8 [some (.ref r0), some (.int v3)] [] g3 P
  refine sw_aload_n dX9_load_8 rfl ?_
  refine sw_getf dX9_load_9 lf_X9_12 hc6 hv6 ?_
  refine sw_getf dX9_load_12 lf_X9_72 hc7 hv7 ?_
  refine sw_iconst (v := 0) dX9_load_15 (by decide) ?_
  refine sw_cV (M := m_X9_load) dX9_load_16 lv_X9_83 hm9 hr9 rfl (by decide) rfl rfl rfl (Nat.le_of_ble_eq_true rfl) (fun _ _ => rfl) rfl ?_
  show SW sc m_X9_load _ _ _ 19 [some (.ref r0), some (.int v3)] [.int v9] g9 P
  refine sw_pop dX9_load_19 (fun _ _ => rfl) ?_
  refine sw_iload_n dX9_load_20 rfl ?_
  exact sw_if_eq dX9_load_21 (by decide) (fun q => (sw_fg [false, true] rfl (kt q))) (fun q => (sw_fg [true, false] rfl (kf q)))
theorem b_X9_load_24 {l1 : Int32} (hP : P (.inl (some (.int (-l1)))) h) : SW sc m_X9_load d rc rs 24 [none, some (.int l1)] [] h P := by
  refine sw_iload_n dX9_load_24 rfl ?_
  refine sw_ineg dX9_load_25 ?_
  exact sw_ret (v := (some (.int (-l1)))) dX9_load_26 rt_i hP
theorem b_X9_load_27 {r0 : Nat} {fs2 : List Value} {a2 : Nat} {fs4 : List Value} {a4 : Nat} {fs5 : List Value} {a5 : Nat} {g6 : ab_H} {fs6 : List Value} {fs8 : List Value} {a8 : Nat} {g9 : ab_H} {fs9 : List Value} {fs11 : List Value} {a11 : Nat} {g13 : ab_H} {fs15 : List Value} {a15 : Nat} {v16 : Int32} {g16 : ab_H} {fs16 : List Value} (hc2 : (h)[r0]? = some (9, fs2)) (hv2 : fs2[2]? = some (.ref a2)) (hc4 : (h)[r0]? = some (9, fs4)) (hv4 : fs4[0]? = some (.ref a4)) (hc5 : (h)[a4]? = some (6, fs5)) (hv5 : fs5[1]? = some (.ref a5)) (hr6 : (h)[a2]? = some (3, fs6)) (hm6 : MSE m_X3_copy d [.ref a2, .ref a5] h none g6) (hc8 : (g6)[r0]? = some (9, fs8)) (hv8 : fs8[8]? = some (.ref a8)) (hr9 : (g6)[a8]? = some (5, fs9)) (hm9 : MSE m_X5_forget d [.ref a8] g6 none g9) (hc11 : (g9)[r0]? = some (9, fs11)) (hv11 : fs11[9]? = some (.ref a11)) (hm13 : MSE m_J7_fill_53178 d [.ref a11, .int 0] g9 none g13) (hc15 : (g13)[r0]? = some (9, fs15)) (hv15 : fs15[2]? = some (.ref a15)) (hr16 : (g13)[a15]? = some (3, fs16)) (hm16 : MSE m_X3_edges d [.ref a15] g13 (some (.int v16)) g16) (hP : P (.inl (some (.int v16))) g16) : SW sc m_X9_load (d + 1) rc rs 27 [some (.ref r0), none] [] h P := by
  refine sw_aload_n dX9_load_27 rfl ?_
  refine sw_getf dX9_load_28 lf_X9_26 hc2 hv2 ?_
  refine sw_aload_n dX9_load_31 rfl ?_
  refine sw_getf dX9_load_32 lf_X9_12 hc4 hv4 ?_
  refine sw_getf dX9_load_35 lf_X9_91 hc5 hv5 ?_
  refine sw_cV (M := m_X9_load) dX9_load_38 lv_X9_94 hm6 hr6 rfl (by decide) rfl rfl rfl (Nat.le_of_ble_eq_true rfl) (fun _ _ => rfl) rfl ?_
  show SW sc m_X9_load _ _ _ 41 [some (.ref r0), none] [] g6 P
  refine sw_aload_n dX9_load_41 rfl ?_
  refine sw_getf dX9_load_42 lf_X9_64 hc8 hv8 ?_
  refine sw_cV (M := m_X9_load) dX9_load_45 lv_X9_98 hm9 hr9 rfl (by decide) rfl rfl rfl (Nat.le_of_ble_eq_true rfl) (fun _ _ => rfl) rfl ?_
  show SW sc m_X9_load _ _ _ 48 [some (.ref r0), none] [] g9 P
  refine sw_aload_n dX9_load_48 rfl ?_
  refine sw_getf dX9_load_49 lf_X9_68 hc11 hv11 ?_
  refine sw_iconst (v := 0) dX9_load_52 (by decide) ?_
  refine sw_cS (M := m_X9_load) dX9_load_53 ls_X9_101 hm13 rfl rfl (Nat.le_of_ble_eq_true rfl) (fun _ _ => rfl) rfl ?_
  show SW sc m_X9_load _ _ _ 56 [some (.ref r0), none] [] g13 P
  refine sw_aload_n dX9_load_56 rfl ?_
  refine sw_getf dX9_load_57 lf_X9_26 hc15 hv15 ?_
  refine sw_cV (M := m_X9_load) dX9_load_60 lv_X9_107 hm16 hr16 rfl (by decide) rfl rfl rfl (Nat.le_of_ble_eq_true rfl) (fun _ _ => rfl) rfl ?_
  show SW sc m_X9_load _ _ _ 63 [some (.ref r0), none] [.int v16] g16 P
  exact sw_ret (v := (some (.int v16))) dX9_load_63 rt_i hP
theorem b_X9_forest_0 {r0 : Nat} {l1 : Int32} (k0 : l1 = 0 → SW sc m_X9_forest d rc rs 52 [some (.ref r0), none] [] h P) (k1 : l1 = 1 → SW sc m_X9_forest d rc rs 60 [some (.ref r0), none] [] h P) (k2 : l1 = 2 → SW sc m_X9_forest d rc rs 68 [some (.ref r0), none] [] h P) (k3 : l1 = 3 → SW sc m_X9_forest d rc rs 76 [some (.ref r0), none] [] h P) (k4 : l1 = 4 → SW sc m_X9_forest d rc rs 92 [some (.ref r0), none] [] h P) (k5 : l1 = 5 → SW sc m_X9_forest d rc rs 108 [some (.ref r0), none] [] h P) (k6 : l1 = 6 → SW sc m_X9_forest d rc rs 123 [some (.ref r0), none] [] h P) (k7 : l1 = 7 → SW sc m_X9_forest d rc rs 155 [some (.ref r0), none] [] h P) (k8 : l1 = 8 → SW sc m_X9_forest d rc rs 163 [some (.ref r0), none] [] h P) (kd : (∀ i : Nat, i < 9 → ¬ l1 = Int32.ofNat i) → SW sc m_X9_forest d rc rs 171 [none, none] [] h P) : SW sc m_X9_forest d rc rs 0 [some (.ref r0), some (.int l1)] [] h P := by
  refine sw_iload_n dX9_forest_0 rfl ?_
  by_cases ho : (l1).toInt < 0 ∨ 8 < (l1).toInt
  · exact sw_tableOut (M := m_X9_forest) dX9_forest_1 ho (by decide) (sw_fg [true, true] rfl (kd (ab_swOut (n := 9) (by decide) ho)))
  · obtain ⟨i, hi, hx⟩ := ab_swIn (n := 9) (by decide) ho
    by_cases h0 : i = 0
    · subst h0
      exact sw_tableIn (M := m_X9_forest) (off := 51) dX9_forest_1 (by rw [hx]; decide) (by rw [hx]; decide) (by rw [hx]; decide) (by decide) (sw_fg [false, true] rfl (k0 (by rw [hx]; decide)))
    by_cases h1 : i = 1
    · subst h1
      exact sw_tableIn (M := m_X9_forest) (off := 59) dX9_forest_1 (by rw [hx]; decide) (by rw [hx]; decide) (by rw [hx]; decide) (by decide) (sw_fg [false, true] rfl (k1 (by rw [hx]; decide)))
    by_cases h2 : i = 2
    · subst h2
      exact sw_tableIn (M := m_X9_forest) (off := 67) dX9_forest_1 (by rw [hx]; decide) (by rw [hx]; decide) (by rw [hx]; decide) (by decide) (sw_fg [false, true] rfl (k2 (by rw [hx]; decide)))
    by_cases h3 : i = 3
    · subst h3
      exact sw_tableIn (M := m_X9_forest) (off := 75) dX9_forest_1 (by rw [hx]; decide) (by rw [hx]; decide) (by rw [hx]; decide) (by decide) (sw_fg [false, true] rfl (k3 (by rw [hx]; decide)))
    by_cases h4 : i = 4
    · subst h4
      exact sw_tableIn (M := m_X9_forest) (off := 91) dX9_forest_1 (by rw [hx]; decide) (by rw [hx]; decide) (by rw [hx]; decide) (by decide) (sw_fg [false, true] rfl (k4 (by rw [hx]; decide)))
    by_cases h5 : i = 5
    · subst h5
      exact sw_tableIn (M := m_X9_forest) (off := 107) dX9_forest_1 (by rw [hx]; decide) (by rw [hx]; decide) (by rw [hx]; decide) (by decide) (sw_fg [false, true] rfl (k5 (by rw [hx]; decide)))
    by_cases h6 : i = 6
    · subst h6
      exact sw_tableIn (M := m_X9_forest) (off := 122) dX9_forest_1 (by rw [hx]; decide) (by rw [hx]; decide) (by rw [hx]; decide) (by decide) (sw_fg [false, true] rfl (k6 (by rw [hx]; decide)))
    by_cases h7 : i = 7
    · subst h7
      exact sw_tableIn (M := m_X9_forest) (off := 154) dX9_forest_1 (by rw [hx]; decide) (by rw [hx]; decide) (by rw [hx]; decide) (by decide) (sw_fg [false, true] rfl (k7 (by rw [hx]; decide)))
    by_cases h8 : i = 8
    · subst h8
      exact sw_tableIn (M := m_X9_forest) (off := 162) dX9_forest_1 (by rw [hx]; decide) (by rw [hx]; decide) (by rw [hx]; decide) (by decide) (sw_fg [false, true] rfl (k8 (by rw [hx]; decide)))
    exact absurd hi (by omega)
theorem b_X9_forest_52 {r0 : Nat} {fs2 : List Value} {a2 : Nat} {fs3 : List Value} {x3 : Int32} (hc2 : (h)[r0]? = some (9, fs2)) (hv2 : fs2[2]? = some (.ref a2)) (hc3 : (h)[a2]? = some (3, fs3)) (hv3 : fs3[2]? = some (.int x3)) (hP : P (.inl (some (.int x3))) h) : SW sc m_X9_forest d rc rs 52 [some (.ref r0), none] [] h P := by
  refine sw_aload_n dX9_forest_52 rfl ?_
  refine sw_getf dX9_forest_53 lf_X9_26 hc2 hv2 ?_
  refine sw_getf dX9_forest_56 lf_X9_110 hc3 hv3 ?_
  exact sw_ret (v := (some (.int x3))) dX9_forest_59 rt_i hP
theorem b_X9_forest_60 {r0 : Nat} {fs2 : List Value} {a2 : Nat} {v3 : Int32} {g3 : ab_H} {fs3 : List Value} (hc2 : (h)[r0]? = some (9, fs2)) (hv2 : fs2[2]? = some (.ref a2)) (hr3 : (h)[a2]? = some (3, fs3)) (hm3 : MSE m_X3_edges d [.ref a2] h (some (.int v3)) g3) (hP : P (.inl (some (.int v3))) g3) : SW sc m_X9_forest (d + 1) rc rs 60 [some (.ref r0), none] [] h P := by
  refine sw_aload_n dX9_forest_60 rfl ?_
  refine sw_getf dX9_forest_61 lf_X9_26 hc2 hv2 ?_
  refine sw_cV (M := m_X9_forest) dX9_forest_64 lv_X9_107 hm3 hr3 rfl (by decide) rfl rfl rfl (Nat.le_of_ble_eq_true rfl) (fun _ _ => rfl) rfl ?_
  show SW sc m_X9_forest _ _ _ 67 [some (.ref r0), none] [.int v3] g3 P
  exact sw_ret (v := (some (.int v3))) dX9_forest_67 rt_i hP
theorem b_X9_forest_68 {r0 : Nat} {fs2 : List Value} {a2 : Nat} {v3 : Int32} {g3 : ab_H} {fs3 : List Value} (hc2 : (h)[r0]? = some (9, fs2)) (hv2 : fs2[2]? = some (.ref a2)) (hr3 : (h)[a2]? = some (3, fs3)) (hm3 : MSE m_X3_components d [.ref a2] h (some (.int v3)) g3) (hP : P (.inl (some (.int v3))) g3) : SW sc m_X9_forest (d + 1) rc rs 68 [some (.ref r0), none] [] h P := by
  refine sw_aload_n dX9_forest_68 rfl ?_
  refine sw_getf dX9_forest_69 lf_X9_26 hc2 hv2 ?_
  refine sw_cV (M := m_X9_forest) dX9_forest_72 lv_X9_113 hm3 hr3 rfl (by decide) rfl rfl rfl (Nat.le_of_ble_eq_true rfl) (fun _ _ => rfl) rfl ?_
  show SW sc m_X9_forest _ _ _ 75 [some (.ref r0), none] [.int v3] g3 P
  exact sw_ret (v := (some (.int v3))) dX9_forest_75 rt_i hP
theorem b_X9_forest_76 {r0 : Nat} {fs2 : List Value} {a2 : Nat} {fs4 : List Value} {a4 : Nat} {v5 : Int32} {g5 : ab_H} {fs5 : List Value} {v7 : Int32} {g7 : ab_H} {fs7 : List Value} (hc2 : (h)[r0]? = some (9, fs2)) (hv2 : fs2[2]? = some (.ref a2)) (hc4 : (h)[r0]? = some (9, fs4)) (hv4 : fs4[2]? = some (.ref a4)) (hr5 : (h)[a4]? = some (3, fs5)) (hm5 : MSE m_X3_all d [.ref a4] h (some (.int v5)) g5) (hr7 : (g5)[a2]? = some (3, fs7)) (hm7 : MSE m_X3_countOfDegree d [.ref a2, .int v5, .int 1] g5 (some (.int v7)) g7) (hP : P (.inl (some (.int v7))) g7) : SW sc m_X9_forest (d + 1) rc rs 76 [some (.ref r0), none] [] h P := by
  refine sw_aload_n dX9_forest_76 rfl ?_
  refine sw_getf dX9_forest_77 lf_X9_26 hc2 hv2 ?_
  refine sw_aload_n dX9_forest_80 rfl ?_
  refine sw_getf dX9_forest_81 lf_X9_26 hc4 hv4 ?_
  refine sw_cV (M := m_X9_forest) dX9_forest_84 lv_X9_116 hm5 hr5 rfl (by decide) rfl rfl rfl (Nat.le_of_ble_eq_true rfl) (fun _ _ => rfl) rfl ?_
  show SW sc m_X9_forest _ _ _ 87 [some (.ref r0), none] [.int v5, .ref a2] g5 P
  refine sw_iconst (v := 1) dX9_forest_87 (by decide) ?_
  refine sw_cV (M := m_X9_forest) dX9_forest_88 lv_X9_119 hm7 hr7 rfl (by decide) rfl rfl rfl (Nat.le_of_ble_eq_true rfl) (fun _ _ => rfl) rfl ?_
  show SW sc m_X9_forest _ _ _ 91 [some (.ref r0), none] [.int v7] g7 P
  exact sw_ret (v := (some (.int v7))) dX9_forest_91 rt_i hP
theorem b_X9_forest_92 {r0 : Nat} {fs2 : List Value} {a2 : Nat} {fs4 : List Value} {a4 : Nat} {v5 : Int32} {g5 : ab_H} {fs5 : List Value} {v7 : Int32} {g7 : ab_H} {fs7 : List Value} (hc2 : (h)[r0]? = some (9, fs2)) (hv2 : fs2[2]? = some (.ref a2)) (hc4 : (h)[r0]? = some (9, fs4)) (hv4 : fs4[2]? = some (.ref a4)) (hr5 : (h)[a4]? = some (3, fs5)) (hm5 : MSE m_X3_all d [.ref a4] h (some (.int v5)) g5) (hr7 : (g5)[a2]? = some (3, fs7)) (hm7 : MSE m_X3_countOfDegree d [.ref a2, .int v5, .int 0] g5 (some (.int v7)) g7) (hP : P (.inl (some (.int v7))) g7) : SW sc m_X9_forest (d + 1) rc rs 92 [some (.ref r0), none] [] h P := by
  refine sw_aload_n dX9_forest_92 rfl ?_
  refine sw_getf dX9_forest_93 lf_X9_26 hc2 hv2 ?_
  refine sw_aload_n dX9_forest_96 rfl ?_
  refine sw_getf dX9_forest_97 lf_X9_26 hc4 hv4 ?_
  refine sw_cV (M := m_X9_forest) dX9_forest_100 lv_X9_116 hm5 hr5 rfl (by decide) rfl rfl rfl (Nat.le_of_ble_eq_true rfl) (fun _ _ => rfl) rfl ?_
  show SW sc m_X9_forest _ _ _ 103 [some (.ref r0), none] [.int v5, .ref a2] g5 P
  refine sw_iconst (v := 0) dX9_forest_103 (by decide) ?_
  refine sw_cV (M := m_X9_forest) dX9_forest_104 lv_X9_119 hm7 hr7 rfl (by decide) rfl rfl rfl (Nat.le_of_ble_eq_true rfl) (fun _ _ => rfl) rfl ?_
  show SW sc m_X9_forest _ _ _ 107 [some (.ref r0), none] [.int v7] g7 P
  exact sw_ret (v := (some (.int v7))) dX9_forest_107 rt_i hP
theorem b_X9_forest_108 {r0 : Nat} {fs2 : List Value} {a2 : Nat} {fs4 : List Value} {a4 : Nat} {v5 : Int32} {g5 : ab_H} {fs5 : List Value} {v6 : Int32} {g6 : ab_H} {fs6 : List Value} (hc2 : (h)[r0]? = some (9, fs2)) (hv2 : fs2[2]? = some (.ref a2)) (hc4 : (h)[r0]? = some (9, fs4)) (hv4 : fs4[2]? = some (.ref a4)) (hr5 : (h)[a4]? = some (3, fs5)) (hm5 : MSE m_X3_all d [.ref a4] h (some (.int v5)) g5) (hr6 : (g5)[a2]? = some (3, fs6)) (hm6 : MSE m_X3_weightOfSet d [.ref a2, .int v5] g5 (some (.int v6)) g6) (hP : P (.inl (some (.int v6))) g6) : SW sc m_X9_forest (d + 1) rc rs 108 [some (.ref r0), none] [] h P := by
  refine sw_aload_n dX9_forest_108 rfl ?_
  refine sw_getf dX9_forest_109 lf_X9_26 hc2 hv2 ?_
  refine sw_aload_n dX9_forest_112 rfl ?_
  refine sw_getf dX9_forest_113 lf_X9_26 hc4 hv4 ?_
  refine sw_cV (M := m_X9_forest) dX9_forest_116 lv_X9_116 hm5 hr5 rfl (by decide) rfl rfl rfl (Nat.le_of_ble_eq_true rfl) (fun _ _ => rfl) rfl ?_
  show SW sc m_X9_forest _ _ _ 119 [some (.ref r0), none] [.int v5, .ref a2] g5 P
  refine sw_cV (M := m_X9_forest) dX9_forest_119 lv_X9_123 hm6 hr6 rfl (by decide) rfl rfl rfl (Nat.le_of_ble_eq_true rfl) (fun _ _ => rfl) rfl ?_
  show SW sc m_X9_forest _ _ _ 122 [some (.ref r0), none] [.int v6] g6 P
  exact sw_ret (v := (some (.int v6))) dX9_forest_122 rt_i hP
theorem b_X9_forest_123 {r0 : Nat} {fs2 : List Value} {a2 : Nat} {fs4 : List Value} {a4 : Nat} {fs6 : List Value} {a6 : Nat} {v7 : Int32} {g7 : ab_H} {fs7 : List Value} {v10 : Int32} {g10 : ab_H} {fs10 : List Value} {fs13 : List Value} {a13 : Nat} {fs14 : List Value} {a14 : Nat} {fs15 : List Value} {x15 : Int32} (hc2 : (h)[r0]? = some (9, fs2)) (hv2 : fs2[5]? = some (.ref a2)) (hc4 : (h)[r0]? = some (9, fs4)) (hv4 : fs4[2]? = some (.ref a4)) (hc6 : (h)[r0]? = some (9, fs6)) (hv6 : fs6[2]? = some (.ref a6)) (hr7 : (h)[a6]? = some (3, fs7)) (hm7 : MSE m_X3_components d [.ref a6] h (some (.int v7)) g7) (hr10 : (g7)[a2]? = some (8, fs10)) (hm10 : MSE m_X8_classOf d [.ref a2, .ref a4, .int (v7 - 1)] g7 (some (.int v10)) g10) (hc13 : (g10)[r0]? = some (9, fs13)) (hv13 : fs13[5]? = some (.ref a13)) (hc14 : (g10)[a13]? = some (8, fs14)) (hv14 : fs14[5]? = some (.ref a14)) (hc15 : (g10)[a14]? = some (4, fs15)) (hv15 : fs15[1]? = some (.int x15)) (hP : P (.inl (some (.int x15))) g10) : SW sc m_X9_forest (d + 1) rc rs 123 [some (.ref r0), none] [] h P := by
  refine sw_aload_n dX9_forest_123 rfl ?_
  refine sw_getf dX9_forest_124 lf_X9_43 hc2 hv2 ?_
  refine sw_aload_n dX9_forest_127 rfl ?_
  refine sw_getf dX9_forest_128 lf_X9_26 hc4 hv4 ?_
  refine sw_aload_n dX9_forest_131 rfl ?_
  refine sw_getf dX9_forest_132 lf_X9_26 hc6 hv6 ?_
  refine sw_cV (M := m_X9_forest) dX9_forest_135 lv_X9_113 hm7 hr7 rfl (by decide) rfl rfl rfl (Nat.le_of_ble_eq_true rfl) (fun _ _ => rfl) rfl ?_
  show SW sc m_X9_forest _ _ _ 138 [some (.ref r0), none] [.int v7, .ref a4, .ref a2] g7 P
  refine sw_iconst (v := 1) dX9_forest_138 (by decide) ?_
  refine sw_isub dX9_forest_139 ?_
  refine sw_cV (M := m_X9_forest) dX9_forest_140 lv_X9_127 hm10 hr10 rfl (by decide) rfl rfl rfl (Nat.le_of_ble_eq_true rfl) (fun _ _ => rfl) rfl ?_
  show SW sc m_X9_forest _ _ _ 143 [some (.ref r0), none] [.int v10] g10 P
  refine sw_pop dX9_forest_143 (fun _ _ => rfl) ?_
  refine sw_aload_n dX9_forest_144 rfl ?_
  refine sw_getf dX9_forest_145 lf_X9_43 hc13 hv13 ?_
  refine sw_getf dX9_forest_148 lf_X9_131 hc14 hv14 ?_
  refine sw_getf dX9_forest_151 lf_X9_135 hc15 hv15 ?_
  exact sw_ret (v := (some (.int x15))) dX9_forest_154 rt_i hP
theorem b_X9_forest_155 {r0 : Nat} {fs2 : List Value} {a2 : Nat} {fs3 : List Value} {x3 : Int32} (hc2 : (h)[r0]? = some (9, fs2)) (hv2 : fs2[8]? = some (.ref a2)) (hc3 : (h)[a2]? = some (5, fs3)) (hv3 : fs3[4]? = some (.int x3)) (hP : P (.inl (some (.int x3))) h) : SW sc m_X9_forest d rc rs 155 [some (.ref r0), none] [] h P := by
  refine sw_aload_n dX9_forest_155 rfl ?_
  refine sw_getf dX9_forest_156 lf_X9_64 hc2 hv2 ?_
  refine sw_getf dX9_forest_159 lf_X9_140 hc3 hv3 ?_
  exact sw_ret (v := (some (.int x3))) dX9_forest_162 rt_i hP
theorem b_X9_forest_163 {r0 : Nat} {fs2 : List Value} {a2 : Nat} {fs3 : List Value} {x3 : Int32} (hc2 : (h)[r0]? = some (9, fs2)) (hv2 : fs2[8]? = some (.ref a2)) (hc3 : (h)[a2]? = some (5, fs3)) (hv3 : fs3[3]? = some (.int x3)) (hP : P (.inl (some (.int x3))) h) : SW sc m_X9_forest d rc rs 163 [some (.ref r0), none] [] h P := by
  refine sw_aload_n dX9_forest_163 rfl ?_
  refine sw_getf dX9_forest_164 lf_X9_64 hc2 hv2 ?_
  refine sw_getf dX9_forest_167 lf_X9_143 hc3 hv3 ?_
  exact sw_ret (v := (some (.int x3))) dX9_forest_170 rt_i hP
theorem b_X9_forest_171  (hP : P (.inl (some (.int (-1)))) h) : SW sc m_X9_forest d rc rs 171 [none, none] [] h P := by
  refine sw_iconst (v := (-1)) dX9_forest_171 (by decide) ?_
  exact sw_ret (v := (some (.int (-1)))) dX9_forest_172 rt_i hP
theorem b_X9_vertex_0 {r0 : Nat} {l1 : Int32} {l2 : Int32} {g3 : ab_H} {fs3 : List Value} (hr3 : (h)[r0]? = some (9, fs3)) (hm3 : MSE m_X9_needVertex d [.ref r0, .int l1] h none g3) (k0 : l2 = 0 → SW sc m_X9_vertex (d + 1) rc rs 52 [some (.ref r0), some (.int l1), none] [] g3 P) (k1 : l2 = 1 → SW sc m_X9_vertex (d + 1) rc rs 61 [some (.ref r0), some (.int l1), none] [] g3 P) (k2 : l2 = 2 → SW sc m_X9_vertex (d + 1) rc rs 70 [some (.ref r0), some (.int l1), none] [] g3 P) (k3 : l2 = 3 → SW sc m_X9_vertex (d + 1) rc rs 79 [some (.ref r0), some (.int l1), none] [] g3 P) (k4 : l2 = 4 → SW sc m_X9_vertex (d + 1) rc rs 91 [some (.ref r0), some (.int l1), none] [] g3 P) (k5 : l2 = 5 → SW sc m_X9_vertex (d + 1) rc rs 100 [some (.ref r0), some (.int l1), none] [] g3 P) (k6 : l2 = 6 → SW sc m_X9_vertex (d + 1) rc rs 106 [some (.ref r0), some (.int l1), none] [] g3 P) (k7 : l2 = 7 → SW sc m_X9_vertex (d + 1) rc rs 115 [some (.ref r0), some (.int l1), none] [] g3 P) (kd : (∀ i : Nat, i < 8 → ¬ l2 = Int32.ofNat i) → SW sc m_X9_vertex (d + 1) rc rs 128 [none, none, none] [] g3 P) : SW sc m_X9_vertex (d + 1) rc rs 0 [some (.ref r0), some (.int l1), some (.int l2)] [] h P := by
  refine sw_aload_n dX9_vertex_0 rfl ?_
  refine sw_iload_n dX9_vertex_1 rfl ?_
  refine sw_cV (M := m_X9_vertex) dX9_vertex_2 lv_X9_146 hm3 hr3 rfl (by decide) rfl rfl rfl (Nat.le_of_ble_eq_true rfl) (fun _ _ => rfl) rfl ?_
  show SW sc m_X9_vertex _ _ _ 5 [some (.ref r0), some (.int l1), some (.int l2)] [] g3 P
  refine sw_iload_n dX9_vertex_5 rfl ?_
  by_cases ho : (l2).toInt < 0 ∨ 7 < (l2).toInt
  · exact sw_tableOut (M := m_X9_vertex) dX9_vertex_6 ho (by decide) (sw_fg [true, true, true] rfl (kd (ab_swOut (n := 8) (by decide) ho)))
  · obtain ⟨i, hi, hx⟩ := ab_swIn (n := 8) (by decide) ho
    by_cases h0 : i = 0
    · subst h0
      exact sw_tableIn (M := m_X9_vertex) (off := 46) dX9_vertex_6 (by rw [hx]; decide) (by rw [hx]; decide) (by rw [hx]; decide) (by decide) (sw_fg [false, false, true] rfl (k0 (by rw [hx]; decide)))
    by_cases h1 : i = 1
    · subst h1
      exact sw_tableIn (M := m_X9_vertex) (off := 55) dX9_vertex_6 (by rw [hx]; decide) (by rw [hx]; decide) (by rw [hx]; decide) (by decide) (sw_fg [false, false, true] rfl (k1 (by rw [hx]; decide)))
    by_cases h2 : i = 2
    · subst h2
      exact sw_tableIn (M := m_X9_vertex) (off := 64) dX9_vertex_6 (by rw [hx]; decide) (by rw [hx]; decide) (by rw [hx]; decide) (by decide) (sw_fg [false, false, true] rfl (k2 (by rw [hx]; decide)))
    by_cases h3 : i = 3
    · subst h3
      exact sw_tableIn (M := m_X9_vertex) (off := 73) dX9_vertex_6 (by rw [hx]; decide) (by rw [hx]; decide) (by rw [hx]; decide) (by decide) (sw_fg [false, false, true] rfl (k3 (by rw [hx]; decide)))
    by_cases h4 : i = 4
    · subst h4
      exact sw_tableIn (M := m_X9_vertex) (off := 85) dX9_vertex_6 (by rw [hx]; decide) (by rw [hx]; decide) (by rw [hx]; decide) (by decide) (sw_fg [false, false, true] rfl (k4 (by rw [hx]; decide)))
    by_cases h5 : i = 5
    · subst h5
      exact sw_tableIn (M := m_X9_vertex) (off := 94) dX9_vertex_6 (by rw [hx]; decide) (by rw [hx]; decide) (by rw [hx]; decide) (by decide) (sw_fg [false, false, true] rfl (k5 (by rw [hx]; decide)))
    by_cases h6 : i = 6
    · subst h6
      exact sw_tableIn (M := m_X9_vertex) (off := 100) dX9_vertex_6 (by rw [hx]; decide) (by rw [hx]; decide) (by rw [hx]; decide) (by decide) (sw_fg [false, false, true] rfl (k6 (by rw [hx]; decide)))
    by_cases h7 : i = 7
    · subst h7
      exact sw_tableIn (M := m_X9_vertex) (off := 109) dX9_vertex_6 (by rw [hx]; decide) (by rw [hx]; decide) (by rw [hx]; decide) (by decide) (sw_fg [false, false, true] rfl (k7 (by rw [hx]; decide)))
    exact absurd hi (by omega)
theorem bx_X9_vertex_0_2 {r0 : Nat} {l1 : Int32} {l2 : Int32} {E : Nat} {g3 : ab_H} {fs3 : List Value} (hr3 : (h)[r0]? = some (9, fs3)) (hm3 : MSX m_X9_needVertex d [.ref r0, .int l1] h E g3) (hx : ST sc m_X9_vertex (d + 1) rc rs 2 [some (.ref r0), some (.int l1), some (.int l2)] g3 E P) : SW sc m_X9_vertex (d + 1) (rc + 1) (rs + 6) 0 [some (.ref r0), some (.int l1), some (.int l2)] [] h P := by
  refine sw_aload_n dX9_vertex_0 rfl ?_
  refine sw_iload_n dX9_vertex_1 rfl ?_
  exact sw_xV (M := m_X9_vertex) dX9_vertex_2 lv_X9_146 hm3 hr3 rfl (by decide) rfl rfl rfl (Nat.le_of_ble_eq_true rfl) (fun _ _ => rfl) rfl hx
theorem b_X9_vertex_52 {r0 : Nat} {l1 : Int32} {fs2 : List Value} {a2 : Nat} {v4 : Int32} {g4 : ab_H} {fs4 : List Value} (hc2 : (h)[r0]? = some (9, fs2)) (hv2 : fs2[2]? = some (.ref a2)) (hr4 : (h)[a2]? = some (3, fs4)) (hm4 : MSE m_X3_degree d [.ref a2, .int l1] h (some (.int v4)) g4) (hP : P (.inl (some (.int v4))) g4) : SW sc m_X9_vertex (d + 1) rc rs 52 [some (.ref r0), some (.int l1), none] [] h P := by
  refine sw_aload_n dX9_vertex_52 rfl ?_
  refine sw_getf dX9_vertex_53 lf_X9_26 hc2 hv2 ?_
  refine sw_iload_n dX9_vertex_56 rfl ?_
  refine sw_cV (M := m_X9_vertex) dX9_vertex_57 lv_X9_149 hm4 hr4 rfl (by decide) rfl rfl rfl (Nat.le_of_ble_eq_true rfl) (fun _ _ => rfl) rfl ?_
  show SW sc m_X9_vertex _ _ _ 60 [some (.ref r0), some (.int l1), none] [.int v4] g4 P
  exact sw_ret (v := (some (.int v4))) dX9_vertex_60 rt_i hP
theorem b_X9_vertex_61 {r0 : Nat} {l1 : Int32} {fs2 : List Value} {a2 : Nat} {v4 : Int32} {g4 : ab_H} {fs4 : List Value} (hc2 : (h)[r0]? = some (9, fs2)) (hv2 : fs2[2]? = some (.ref a2)) (hr4 : (h)[a2]? = some (3, fs4)) (hm4 : MSE m_X3_weightOf d [.ref a2, .int l1] h (some (.int v4)) g4) (hP : P (.inl (some (.int v4))) g4) : SW sc m_X9_vertex (d + 1) rc rs 61 [some (.ref r0), some (.int l1), none] [] h P := by
  refine sw_aload_n dX9_vertex_61 rfl ?_
  refine sw_getf dX9_vertex_62 lf_X9_26 hc2 hv2 ?_
  refine sw_iload_n dX9_vertex_65 rfl ?_
  refine sw_cV (M := m_X9_vertex) dX9_vertex_66 lv_X9_152 hm4 hr4 rfl (by decide) rfl rfl rfl (Nat.le_of_ble_eq_true rfl) (fun _ _ => rfl) rfl ?_
  show SW sc m_X9_vertex _ _ _ 69 [some (.ref r0), some (.int l1), none] [.int v4] g4 P
  exact sw_ret (v := (some (.int v4))) dX9_vertex_69 rt_i hP
theorem b_X9_vertex_70 {r0 : Nat} {l1 : Int32} {fs2 : List Value} {a2 : Nat} {v4 : Int32} {g4 : ab_H} {fs4 : List Value} (hc2 : (h)[r0]? = some (9, fs2)) (hv2 : fs2[2]? = some (.ref a2)) (hr4 : (h)[a2]? = some (3, fs4)) (hm4 : MSE m_X3_componentNumber d [.ref a2, .int l1] h (some (.int v4)) g4) (hP : P (.inl (some (.int v4))) g4) : SW sc m_X9_vertex (d + 1) rc rs 70 [some (.ref r0), some (.int l1), none] [] h P := by
  refine sw_aload_n dX9_vertex_70 rfl ?_
  refine sw_getf dX9_vertex_71 lf_X9_26 hc2 hv2 ?_
  refine sw_iload_n dX9_vertex_74 rfl ?_
  refine sw_cV (M := m_X9_vertex) dX9_vertex_75 lv_X9_155 hm4 hr4 rfl (by decide) rfl rfl rfl (Nat.le_of_ble_eq_true rfl) (fun _ _ => rfl) rfl ?_
  show SW sc m_X9_vertex _ _ _ 78 [some (.ref r0), some (.int l1), none] [.int v4] g4 P
  exact sw_ret (v := (some (.int v4))) dX9_vertex_78 rt_i hP
theorem b_X9_vertex_79 {r0 : Nat} {l1 : Int32} {fs2 : List Value} {a2 : Nat} {v4 : Int32} {g4 : ab_H} {fs4 : List Value} {v5 : Int32} {g5 : ab_H} (hc2 : (h)[r0]? = some (9, fs2)) (hv2 : fs2[2]? = some (.ref a2)) (hr4 : (h)[a2]? = some (3, fs4)) (hm4 : MSE m_X3_componentWith d [.ref a2, .int l1] h (some (.int v4)) g4) (hm5 : MSE m_J6_bitCount_0f7a4 d [.int v4] g4 (some (.int v5)) g5) (hP : P (.inl (some (.int v5))) g5) : SW sc m_X9_vertex (d + 1) rc rs 79 [some (.ref r0), some (.int l1), none] [] h P := by
  refine sw_aload_n dX9_vertex_79 rfl ?_
  refine sw_getf dX9_vertex_80 lf_X9_26 hc2 hv2 ?_
  refine sw_iload_n dX9_vertex_83 rfl ?_
  refine sw_cV (M := m_X9_vertex) dX9_vertex_84 lv_X9_158 hm4 hr4 rfl (by decide) rfl rfl rfl (Nat.le_of_ble_eq_true rfl) (fun _ _ => rfl) rfl ?_
  show SW sc m_X9_vertex _ _ _ 87 [some (.ref r0), some (.int l1), none] [.int v4] g4 P
  refine sw_cS (M := m_X9_vertex) dX9_vertex_87 ls_X9_161 hm5 rfl rfl (Nat.le_of_ble_eq_true rfl) (fun _ _ => rfl) rfl ?_
  show SW sc m_X9_vertex _ _ _ 90 [some (.ref r0), some (.int l1), none] [.int v5] g5 P
  exact sw_ret (v := (some (.int v5))) dX9_vertex_90 rt_i hP
theorem b_X9_vertex_91 {r0 : Nat} {l1 : Int32} {fs2 : List Value} {a2 : Nat} {v4 : Int32} {g4 : ab_H} {fs4 : List Value} (hc2 : (h)[r0]? = some (9, fs2)) (hv2 : fs2[2]? = some (.ref a2)) (hr4 : (h)[a2]? = some (3, fs4)) (hm4 : MSE m_X3_eccentricity d [.ref a2, .int l1] h (some (.int v4)) g4) (hP : P (.inl (some (.int v4))) g4) : SW sc m_X9_vertex (d + 1) rc rs 91 [some (.ref r0), some (.int l1), none] [] h P := by
  refine sw_aload_n dX9_vertex_91 rfl ?_
  refine sw_getf dX9_vertex_92 lf_X9_26 hc2 hv2 ?_
  refine sw_iload_n dX9_vertex_95 rfl ?_
  refine sw_cV (M := m_X9_vertex) dX9_vertex_96 lv_X9_166 hm4 hr4 rfl (by decide) rfl rfl rfl (Nat.le_of_ble_eq_true rfl) (fun _ _ => rfl) rfl ?_
  show SW sc m_X9_vertex _ _ _ 99 [some (.ref r0), some (.int l1), none] [.int v4] g4 P
  exact sw_ret (v := (some (.int v4))) dX9_vertex_99 rt_i hP
theorem b_X9_vertex_100 {r0 : Nat} {l1 : Int32} {v3 : Int32} {g3 : ab_H} {fs3 : List Value} (hr3 : (h)[r0]? = some (9, fs3)) (hm3 : MSE m_X9_roundOf d [.ref r0, .int l1] h (some (.int v3)) g3) (hP : P (.inl (some (.int v3))) g3) : SW sc m_X9_vertex (d + 1) rc rs 100 [some (.ref r0), some (.int l1), none] [] h P := by
  refine sw_aload_n dX9_vertex_100 rfl ?_
  refine sw_iload_n dX9_vertex_101 rfl ?_
  refine sw_cV (M := m_X9_vertex) dX9_vertex_102 lv_X9_169 hm3 hr3 rfl (by decide) rfl rfl rfl (Nat.le_of_ble_eq_true rfl) (fun _ _ => rfl) rfl ?_
  show SW sc m_X9_vertex _ _ _ 105 [some (.ref r0), some (.int l1), none] [.int v3] g3 P
  exact sw_ret (v := (some (.int v3))) dX9_vertex_105 rt_i hP
theorem b_X9_vertex_106 {r0 : Nat} {l1 : Int32} {fs2 : List Value} {a2 : Nat} {v4 : Int32} {g4 : ab_H} {fs4 : List Value} (hc2 : (h)[r0]? = some (9, fs2)) (hv2 : fs2[2]? = some (.ref a2)) (hr4 : (h)[a2]? = some (3, fs4)) (hm4 : MSE m_X3_nearOf d [.ref a2, .int l1] h (some (.int v4)) g4) (hP : P (.inl (some (.int v4))) g4) : SW sc m_X9_vertex (d + 1) rc rs 106 [some (.ref r0), some (.int l1), none] [] h P := by
  refine sw_aload_n dX9_vertex_106 rfl ?_
  refine sw_getf dX9_vertex_107 lf_X9_26 hc2 hv2 ?_
  refine sw_iload_n dX9_vertex_110 rfl ?_
  refine sw_cV (M := m_X9_vertex) dX9_vertex_111 lv_X9_172 hm4 hr4 rfl (by decide) rfl rfl rfl (Nat.le_of_ble_eq_true rfl) (fun _ _ => rfl) rfl ?_
  show SW sc m_X9_vertex _ _ _ 114 [some (.ref r0), some (.int l1), none] [.int v4] g4 P
  exact sw_ret (v := (some (.int v4))) dX9_vertex_114 rt_i hP
theorem b_X9_vertex_115 {r0 : Nat} {l1 : Int32} {fs2 : List Value} {a2 : Nat} {fs4 : List Value} {a4 : Nat} {v6 : Int32} {g6 : ab_H} {fs6 : List Value} (hc2 : (h)[r0]? = some (9, fs2)) (hv2 : fs2[5]? = some (.ref a2)) (hc4 : (h)[r0]? = some (9, fs4)) (hv4 : fs4[2]? = some (.ref a4)) (hr6 : (h)[a2]? = some (8, fs6)) (hm6 : MSE m_X8_orbitOf d [.ref a2, .ref a4, .int l1] h (some (.int v6)) g6) (hP : P (.inl (some (.int v6))) g6) : SW sc m_X9_vertex (d + 1) rc rs 115 [some (.ref r0), some (.int l1), none] [] h P := by
  refine sw_aload_n dX9_vertex_115 rfl ?_
  refine sw_getf dX9_vertex_116 lf_X9_43 hc2 hv2 ?_
  refine sw_aload_n dX9_vertex_119 rfl ?_
  refine sw_getf dX9_vertex_120 lf_X9_26 hc4 hv4 ?_
  refine sw_iload_n dX9_vertex_123 rfl ?_
  refine sw_cV (M := m_X9_vertex) dX9_vertex_124 lv_X9_175 hm6 hr6 rfl (by decide) rfl rfl rfl (Nat.le_of_ble_eq_true rfl) (fun _ _ => rfl) rfl ?_
  show SW sc m_X9_vertex _ _ _ 127 [some (.ref r0), some (.int l1), none] [.int v6] g6 P
  exact sw_ret (v := (some (.int v6))) dX9_vertex_127 rt_i hP
theorem b_X9_vertex_128  (hP : P (.inr 2) h) : SW sc m_X9_vertex d (rc + 1) (rs + 6) 128 [none, none, none] [] h P := by
  exact sw_throw (M := m_X9_vertex) dX9_vertex_128 dX9_vertex_131 dX9_vertex_132 dX9_vertex_134 dX9_vertex_137 lt_X9_2 sr_X9_180 (Nat.le_of_ble_eq_true rfl) (fun _ _ => rfl) (st_out rfl hP)
theorem b_X9_component_0 {r0 : Nat} {l1 : Int32} {l2 : Int32} {v3 : Int32} {g3 : ab_H} {fs3 : List Value} (hr3 : (h)[r0]? = some (9, fs3)) (hm3 : MSE m_X9_neededComponent d [.ref r0, .int l1] h (some (.int v3)) g3) (k0 : l2 = 0 → SW sc m_X9_component (d + 1) rc rs 48 [none, none, none, some (.int v3)] [] g3 P) (k1 : l2 = 1 → SW sc m_X9_component (d + 1) rc rs 50 [some (.ref r0), none, none, some (.int v3)] [] g3 P) (k2 : l2 = 2 → SW sc m_X9_component (d + 1) rc rs 59 [some (.ref r0), none, none, some (.int v3)] [] g3 P) (k3 : l2 = 3 → SW sc m_X9_component (d + 1) rc rs 69 [some (.ref r0), none, none, some (.int v3)] [] g3 P) (k4 : l2 = 4 → SW sc m_X9_component (d + 1) rc rs 79 [some (.ref r0), none, none, some (.int v3)] [] g3 P) (k5 : l2 = 5 → SW sc m_X9_component (d + 1) rc rs 89 [some (.ref r0), some (.int l1), none, none] [] g3 P) (k6 : l2 = 6 → SW sc m_X9_component (d + 1) rc rs 102 [some (.ref r0), none, none, some (.int v3)] [] g3 P) (kd : (∀ i : Nat, i < 7 → ¬ l2 = Int32.ofNat i) → SW sc m_X9_component (d + 1) rc rs 112 [none, none, none, none] [] g3 P) : SW sc m_X9_component (d + 1) rc rs 0 [some (.ref r0), some (.int l1), some (.int l2), none] [] h P := by
  refine sw_aload_n dX9_component_0 rfl ?_
  refine sw_iload_n dX9_component_1 rfl ?_
  refine sw_cV (M := m_X9_component) dX9_component_2 lv_X9_185 hm3 hr3 rfl (by decide) rfl rfl rfl (Nat.le_of_ble_eq_true rfl) (fun _ _ => rfl) rfl ?_
  show SW sc m_X9_component _ _ _ 5 [some (.ref r0), some (.int l1), some (.int l2), none] [.int v3] g3 P
  refine sw_istore_n dX9_component_5 (by decide) rfl ?_
  show SW sc m_X9_component _ _ _ 6 [some (.ref r0), some (.int l1), some (.int l2), some (.int v3)] [] g3 P
  refine sw_iload_n dX9_component_6 rfl ?_
  by_cases ho : (l2).toInt < 0 ∨ 6 < (l2).toInt
  · exact sw_tableOut (M := m_X9_component) dX9_component_7 ho (by decide) (sw_fg [true, true, true, true] rfl (kd (ab_swOut (n := 7) (by decide) ho)))
  · obtain ⟨i, hi, hx⟩ := ab_swIn (n := 7) (by decide) ho
    by_cases h0 : i = 0
    · subst h0
      exact sw_tableIn (M := m_X9_component) (off := 41) dX9_component_7 (by rw [hx]; decide) (by rw [hx]; decide) (by rw [hx]; decide) (by decide) (sw_fg [true, true, true, false] rfl (k0 (by rw [hx]; decide)))
    by_cases h1 : i = 1
    · subst h1
      exact sw_tableIn (M := m_X9_component) (off := 43) dX9_component_7 (by rw [hx]; decide) (by rw [hx]; decide) (by rw [hx]; decide) (by decide) (sw_fg [false, true, true, false] rfl (k1 (by rw [hx]; decide)))
    by_cases h2 : i = 2
    · subst h2
      exact sw_tableIn (M := m_X9_component) (off := 52) dX9_component_7 (by rw [hx]; decide) (by rw [hx]; decide) (by rw [hx]; decide) (by decide) (sw_fg [false, true, true, false] rfl (k2 (by rw [hx]; decide)))
    by_cases h3 : i = 3
    · subst h3
      exact sw_tableIn (M := m_X9_component) (off := 62) dX9_component_7 (by rw [hx]; decide) (by rw [hx]; decide) (by rw [hx]; decide) (by decide) (sw_fg [false, true, true, false] rfl (k3 (by rw [hx]; decide)))
    by_cases h4 : i = 4
    · subst h4
      exact sw_tableIn (M := m_X9_component) (off := 72) dX9_component_7 (by rw [hx]; decide) (by rw [hx]; decide) (by rw [hx]; decide) (by decide) (sw_fg [false, true, true, false] rfl (k4 (by rw [hx]; decide)))
    by_cases h5 : i = 5
    · subst h5
      exact sw_tableIn (M := m_X9_component) (off := 82) dX9_component_7 (by rw [hx]; decide) (by rw [hx]; decide) (by rw [hx]; decide) (by decide) (sw_fg [false, false, true, true] rfl (k5 (by rw [hx]; decide)))
    by_cases h6 : i = 6
    · subst h6
      exact sw_tableIn (M := m_X9_component) (off := 95) dX9_component_7 (by rw [hx]; decide) (by rw [hx]; decide) (by rw [hx]; decide) (by decide) (sw_fg [false, true, true, false] rfl (k6 (by rw [hx]; decide)))
    exact absurd hi (by omega)
theorem bx_X9_component_0_2 {r0 : Nat} {l1 : Int32} {l2 : Int32} {E : Nat} {g3 : ab_H} {fs3 : List Value} (hr3 : (h)[r0]? = some (9, fs3)) (hm3 : MSX m_X9_neededComponent d [.ref r0, .int l1] h E g3) (hx : ST sc m_X9_component (d + 1) rc rs 2 [some (.ref r0), some (.int l1), some (.int l2), none] g3 E P) : SW sc m_X9_component (d + 1) (rc + 1) (rs + 6) 0 [some (.ref r0), some (.int l1), some (.int l2), none] [] h P := by
  refine sw_aload_n dX9_component_0 rfl ?_
  refine sw_iload_n dX9_component_1 rfl ?_
  exact sw_xV (M := m_X9_component) dX9_component_2 lv_X9_185 hm3 hr3 rfl (by decide) rfl rfl rfl (Nat.le_of_ble_eq_true rfl) (fun _ _ => rfl) rfl hx
theorem b_X9_component_48 {l3 : Int32} (hP : P (.inl (some (.int l3))) h) : SW sc m_X9_component d rc rs 48 [none, none, none, some (.int l3)] [] h P := by
  refine sw_iload_n dX9_component_48 rfl ?_
  exact sw_ret (v := (some (.int l3))) dX9_component_49 rt_i hP
theorem b_X9_component_50 {r0 : Nat} {l3 : Int32} {fs2 : List Value} {a2 : Nat} {v4 : Int32} {g4 : ab_H} {fs4 : List Value} (hc2 : (h)[r0]? = some (9, fs2)) (hv2 : fs2[2]? = some (.ref a2)) (hr4 : (h)[a2]? = some (3, fs4)) (hm4 : MSE m_X3_diameter d [.ref a2, .int l3] h (some (.int v4)) g4) (hP : P (.inl (some (.int v4))) g4) : SW sc m_X9_component (d + 1) rc rs 50 [some (.ref r0), none, none, some (.int l3)] [] h P := by
  refine sw_aload_n dX9_component_50 rfl ?_
  refine sw_getf dX9_component_51 lf_X9_26 hc2 hv2 ?_
  refine sw_iload_n dX9_component_54 rfl ?_
  refine sw_cV (M := m_X9_component) dX9_component_55 lv_X9_188 hm4 hr4 rfl (by decide) rfl rfl rfl (Nat.le_of_ble_eq_true rfl) (fun _ _ => rfl) rfl ?_
  show SW sc m_X9_component _ _ _ 58 [some (.ref r0), none, none, some (.int l3)] [.int v4] g4 P
  exact sw_ret (v := (some (.int v4))) dX9_component_58 rt_i hP
theorem b_X9_component_59 {r0 : Nat} {l3 : Int32} {fs2 : List Value} {a2 : Nat} {v5 : Int32} {g5 : ab_H} {fs5 : List Value} (hc2 : (h)[r0]? = some (9, fs2)) (hv2 : fs2[2]? = some (.ref a2)) (hr5 : (h)[a2]? = some (3, fs5)) (hm5 : MSE m_X3_leastBy d [.ref a2, .int l3, .int 0] h (some (.int v5)) g5) (hP : P (.inl (some (.int v5))) g5) : SW sc m_X9_component (d + 1) rc rs 59 [some (.ref r0), none, none, some (.int l3)] [] h P := by
  refine sw_aload_n dX9_component_59 rfl ?_
  refine sw_getf dX9_component_60 lf_X9_26 hc2 hv2 ?_
  refine sw_iload_n dX9_component_63 rfl ?_
  refine sw_iconst (v := 0) dX9_component_64 (by decide) ?_
  refine sw_cV (M := m_X9_component) dX9_component_65 lv_X9_191 hm5 hr5 rfl (by decide) rfl rfl rfl (Nat.le_of_ble_eq_true rfl) (fun _ _ => rfl) rfl ?_
  show SW sc m_X9_component _ _ _ 68 [some (.ref r0), none, none, some (.int l3)] [.int v5] g5 P
  exact sw_ret (v := (some (.int v5))) dX9_component_68 rt_i hP
theorem b_X9_component_69 {r0 : Nat} {l3 : Int32} {fs2 : List Value} {a2 : Nat} {v5 : Int32} {g5 : ab_H} {fs5 : List Value} (hc2 : (h)[r0]? = some (9, fs2)) (hv2 : fs2[2]? = some (.ref a2)) (hr5 : (h)[a2]? = some (3, fs5)) (hm5 : MSE m_X3_leastBy d [.ref a2, .int l3, .int 1] h (some (.int v5)) g5) (hP : P (.inl (some (.int v5))) g5) : SW sc m_X9_component (d + 1) rc rs 69 [some (.ref r0), none, none, some (.int l3)] [] h P := by
  refine sw_aload_n dX9_component_69 rfl ?_
  refine sw_getf dX9_component_70 lf_X9_26 hc2 hv2 ?_
  refine sw_iload_n dX9_component_73 rfl ?_
  refine sw_iconst (v := 1) dX9_component_74 (by decide) ?_
  refine sw_cV (M := m_X9_component) dX9_component_75 lv_X9_191 hm5 hr5 rfl (by decide) rfl rfl rfl (Nat.le_of_ble_eq_true rfl) (fun _ _ => rfl) rfl ?_
  show SW sc m_X9_component _ _ _ 78 [some (.ref r0), none, none, some (.int l3)] [.int v5] g5 P
  exact sw_ret (v := (some (.int v5))) dX9_component_78 rt_i hP
theorem b_X9_component_79 {r0 : Nat} {l3 : Int32} {fs2 : List Value} {a2 : Nat} {v5 : Int32} {g5 : ab_H} {fs5 : List Value} (hc2 : (h)[r0]? = some (9, fs2)) (hv2 : fs2[2]? = some (.ref a2)) (hr5 : (h)[a2]? = some (3, fs5)) (hm5 : MSE m_X3_leastBy d [.ref a2, .int l3, .int 2] h (some (.int v5)) g5) (hP : P (.inl (some (.int v5))) g5) : SW sc m_X9_component (d + 1) rc rs 79 [some (.ref r0), none, none, some (.int l3)] [] h P := by
  refine sw_aload_n dX9_component_79 rfl ?_
  refine sw_getf dX9_component_80 lf_X9_26 hc2 hv2 ?_
  refine sw_iload_n dX9_component_83 rfl ?_
  refine sw_iconst (v := 2) dX9_component_84 (by decide) ?_
  refine sw_cV (M := m_X9_component) dX9_component_85 lv_X9_191 hm5 hr5 rfl (by decide) rfl rfl rfl (Nat.le_of_ble_eq_true rfl) (fun _ _ => rfl) rfl ?_
  show SW sc m_X9_component _ _ _ 88 [some (.ref r0), none, none, some (.int l3)] [.int v5] g5 P
  exact sw_ret (v := (some (.int v5))) dX9_component_88 rt_i hP
theorem b_X9_component_89 {r0 : Nat} {l1 : Int32} {fs2 : List Value} {a2 : Nat} {fs4 : List Value} {a4 : Nat} {v6 : Int32} {g6 : ab_H} {fs6 : List Value} (hc2 : (h)[r0]? = some (9, fs2)) (hv2 : fs2[5]? = some (.ref a2)) (hc4 : (h)[r0]? = some (9, fs4)) (hv4 : fs4[2]? = some (.ref a4)) (hr6 : (h)[a2]? = some (8, fs6)) (hm6 : MSE m_X8_classOf d [.ref a2, .ref a4, .int l1] h (some (.int v6)) g6) (hP : P (.inl (some (.int v6))) g6) : SW sc m_X9_component (d + 1) rc rs 89 [some (.ref r0), some (.int l1), none, none] [] h P := by
  refine sw_aload_n dX9_component_89 rfl ?_
  refine sw_getf dX9_component_90 lf_X9_43 hc2 hv2 ?_
  refine sw_aload_n dX9_component_93 rfl ?_
  refine sw_getf dX9_component_94 lf_X9_26 hc4 hv4 ?_
  refine sw_iload_n dX9_component_97 rfl ?_
  refine sw_cV (M := m_X9_component) dX9_component_98 lv_X9_127 hm6 hr6 rfl (by decide) rfl rfl rfl (Nat.le_of_ble_eq_true rfl) (fun _ _ => rfl) rfl ?_
  show SW sc m_X9_component _ _ _ 101 [some (.ref r0), some (.int l1), none, none] [.int v6] g6 P
  exact sw_ret (v := (some (.int v6))) dX9_component_101 rt_i hP
theorem b_X9_component_102 {r0 : Nat} {l3 : Int32} {fs2 : List Value} {a2 : Nat} {v5 : Int32} {g5 : ab_H} {fs5 : List Value} (hc2 : (h)[r0]? = some (9, fs2)) (hv2 : fs2[2]? = some (.ref a2)) (hr5 : (h)[a2]? = some (3, fs5)) (hm5 : MSE m_X3_countOfDegree d [.ref a2, .int l3, .int 1] h (some (.int v5)) g5) (hP : P (.inl (some (.int v5))) g5) : SW sc m_X9_component (d + 1) rc rs 102 [some (.ref r0), none, none, some (.int l3)] [] h P := by
  refine sw_aload_n dX9_component_102 rfl ?_
  refine sw_getf dX9_component_103 lf_X9_26 hc2 hv2 ?_
  refine sw_iload_n dX9_component_106 rfl ?_
  refine sw_iconst (v := 1) dX9_component_107 (by decide) ?_
  refine sw_cV (M := m_X9_component) dX9_component_108 lv_X9_119 hm5 hr5 rfl (by decide) rfl rfl rfl (Nat.le_of_ble_eq_true rfl) (fun _ _ => rfl) rfl ?_
  show SW sc m_X9_component _ _ _ 111 [some (.ref r0), none, none, some (.int l3)] [.int v5] g5 P
  exact sw_ret (v := (some (.int v5))) dX9_component_111 rt_i hP
theorem b_X9_component_112  (hP : P (.inr 2) h) : SW sc m_X9_component d (rc + 1) (rs + 6) 112 [none, none, none, none] [] h P := by
  exact sw_throw (M := m_X9_component) dX9_component_112 dX9_component_115 dX9_component_116 dX9_component_118 dX9_component_121 lt_X9_2 sr_X9_194 (Nat.le_of_ble_eq_true rfl) (fun _ _ => rfl) (st_out rfl hP)
theorem b_X9_distance_0 {r0 : Nat} {l1 : Int32} {l2 : Int32} {g3 : ab_H} {fs3 : List Value} {g6 : ab_H} {fs6 : List Value} {fs8 : List Value} {a8 : Nat} {v11 : Int32} {g11 : ab_H} {fs11 : List Value} (hr3 : (h)[r0]? = some (9, fs3)) (hm3 : MSE m_X9_needVertex d [.ref r0, .int l1] h none g3) (hr6 : (g3)[r0]? = some (9, fs6)) (hm6 : MSE m_X9_needVertex d [.ref r0, .int l2] g3 none g6) (hc8 : (g6)[r0]? = some (9, fs8)) (hv8 : fs8[2]? = some (.ref a8)) (hr11 : (g6)[a8]? = some (3, fs11)) (hm11 : MSE m_X3_steps d [.ref a8, .int l1, .int l2] g6 (some (.int v11)) g11) (hP : P (.inl (some (.int v11))) g11) : SW sc m_X9_distance (d + 1) rc rs 0 [some (.ref r0), some (.int l1), some (.int l2)] [] h P := by
  refine sw_aload_n dX9_distance_0 rfl ?_
  refine sw_iload_n dX9_distance_1 rfl ?_
  refine sw_cV (M := m_X9_distance) dX9_distance_2 lv_X9_146 hm3 hr3 rfl (by decide) rfl rfl rfl (Nat.le_of_ble_eq_true rfl) (fun _ _ => rfl) rfl ?_
  show SW sc m_X9_distance _ _ _ 5 [some (.ref r0), some (.int l1), some (.int l2)] [] g3 P
  refine sw_aload_n dX9_distance_5 rfl ?_
  refine sw_iload_n dX9_distance_6 rfl ?_
  refine sw_cV (M := m_X9_distance) dX9_distance_7 lv_X9_146 hm6 hr6 rfl (by decide) rfl rfl rfl (Nat.le_of_ble_eq_true rfl) (fun _ _ => rfl) rfl ?_
  show SW sc m_X9_distance _ _ _ 10 [some (.ref r0), some (.int l1), some (.int l2)] [] g6 P
  refine sw_aload_n dX9_distance_10 rfl ?_
  refine sw_getf dX9_distance_11 lf_X9_26 hc8 hv8 ?_
  refine sw_iload_n dX9_distance_14 rfl ?_
  refine sw_iload_n dX9_distance_15 rfl ?_
  refine sw_cV (M := m_X9_distance) dX9_distance_16 lv_X9_196 hm11 hr11 rfl (by decide) rfl rfl rfl (Nat.le_of_ble_eq_true rfl) (fun _ _ => rfl) rfl ?_
  show SW sc m_X9_distance _ _ _ 19 [some (.ref r0), some (.int l1), some (.int l2)] [.int v11] g11 P
  exact sw_ret (v := (some (.int v11))) dX9_distance_19 rt_i hP
theorem bx_X9_distance_0_2 {r0 : Nat} {l1 : Int32} {l2 : Int32} {E : Nat} {g3 : ab_H} {fs3 : List Value} (hr3 : (h)[r0]? = some (9, fs3)) (hm3 : MSX m_X9_needVertex d [.ref r0, .int l1] h E g3) (hx : ST sc m_X9_distance (d + 1) rc rs 2 [some (.ref r0), some (.int l1), some (.int l2)] g3 E P) : SW sc m_X9_distance (d + 1) (rc + 1) (rs + 6) 0 [some (.ref r0), some (.int l1), some (.int l2)] [] h P := by
  refine sw_aload_n dX9_distance_0 rfl ?_
  refine sw_iload_n dX9_distance_1 rfl ?_
  exact sw_xV (M := m_X9_distance) dX9_distance_2 lv_X9_146 hm3 hr3 rfl (by decide) rfl rfl rfl (Nat.le_of_ble_eq_true rfl) (fun _ _ => rfl) rfl hx
theorem bx_X9_distance_0_7 {r0 : Nat} {l1 : Int32} {l2 : Int32} {g3 : ab_H} {fs3 : List Value} {E : Nat} {g6 : ab_H} {fs6 : List Value} (hr3 : (h)[r0]? = some (9, fs3)) (hm3 : MSE m_X9_needVertex d [.ref r0, .int l1] h none g3) (hr6 : (g3)[r0]? = some (9, fs6)) (hm6 : MSX m_X9_needVertex d [.ref r0, .int l2] g3 E g6) (hx : ST sc m_X9_distance (d + 1) rc rs 7 [some (.ref r0), some (.int l1), some (.int l2)] g6 E P) : SW sc m_X9_distance (d + 1) (rc + 1) (rs + 6) 0 [some (.ref r0), some (.int l1), some (.int l2)] [] h P := by
  refine sw_aload_n dX9_distance_0 rfl ?_
  refine sw_iload_n dX9_distance_1 rfl ?_
  refine sw_cV (M := m_X9_distance) dX9_distance_2 lv_X9_146 hm3 hr3 rfl (by decide) rfl rfl rfl (Nat.le_of_ble_eq_true rfl) (fun _ _ => rfl) rfl ?_
  show SW sc m_X9_distance _ _ _ 5 [some (.ref r0), some (.int l1), some (.int l2)] [] g3 P
  refine sw_aload_n dX9_distance_5 rfl ?_
  refine sw_iload_n dX9_distance_6 rfl ?_
  exact sw_xV (M := m_X9_distance) dX9_distance_7 lv_X9_146 hm6 hr6 rfl (by decide) rfl rfl rfl (Nat.le_of_ble_eq_true rfl) (fun _ _ => rfl) rfl hx
theorem b_X9_onPath_0 {r0 : Nat} {l1 : Int32} {l2 : Int32} {l3 : Int32} {g3 : ab_H} {fs3 : List Value} {g6 : ab_H} {fs6 : List Value} {fs8 : List Value} {a8 : Nat} {v12 : Int32} {g12 : ab_H} {fs12 : List Value} (hr3 : (h)[r0]? = some (9, fs3)) (hm3 : MSE m_X9_needVertex d [.ref r0, .int l1] h none g3) (hr6 : (g3)[r0]? = some (9, fs6)) (hm6 : MSE m_X9_needVertex d [.ref r0, .int l2] g3 none g6) (hc8 : (g6)[r0]? = some (9, fs8)) (hv8 : fs8[2]? = some (.ref a8)) (hr12 : (g6)[a8]? = some (3, fs12)) (hm12 : MSE m_X3_pathVertex d [.ref a8, .int l1, .int l2, .int l3] g6 (some (.int v12)) g12) (kt : ¬ v12 = (-1) → SW sc m_X9_onPath (d + 1) rc rs 38 [none, none, none, none, some (.int v12)] [] g12 P) (kf : v12 = (-1) → SW sc m_X9_onPath (d + 1) rc rs 28 [none, none, none, none, none] [] g12 P) : SW sc m_X9_onPath (d + 1) rc rs 0 [some (.ref r0), some (.int l1), some (.int l2), some (.int l3), none] [] h P := by
  refine sw_aload_n dX9_onPath_0 rfl ?_
  refine sw_iload_n dX9_onPath_1 rfl ?_
  refine sw_cV (M := m_X9_onPath) dX9_onPath_2 lv_X9_146 hm3 hr3 rfl (by decide) rfl rfl rfl (Nat.le_of_ble_eq_true rfl) (fun _ _ => rfl) rfl ?_
  show SW sc m_X9_onPath _ _ _ 5 [some (.ref r0), some (.int l1), some (.int l2), some (.int l3), none] [] g3 P
  refine sw_aload_n dX9_onPath_5 rfl ?_
  refine sw_iload_n dX9_onPath_6 rfl ?_
  refine sw_cV (M := m_X9_onPath) dX9_onPath_7 lv_X9_146 hm6 hr6 rfl (by decide) rfl rfl rfl (Nat.le_of_ble_eq_true rfl) (fun _ _ => rfl) rfl ?_
  show SW sc m_X9_onPath _ _ _ 10 [some (.ref r0), some (.int l1), some (.int l2), some (.int l3), none] [] g6 P
  refine sw_aload_n dX9_onPath_10 rfl ?_
  refine sw_getf dX9_onPath_11 lf_X9_26 hc8 hv8 ?_
  refine sw_iload_n dX9_onPath_14 rfl ?_
  refine sw_iload_n dX9_onPath_15 rfl ?_
  refine sw_iload_n dX9_onPath_16 rfl ?_
  refine sw_cV (M := m_X9_onPath) dX9_onPath_17 lv_X9_199 hm12 hr12 rfl (by decide) rfl rfl rfl (Nat.le_of_ble_eq_true rfl) (fun _ _ => rfl) rfl ?_
  show SW sc m_X9_onPath _ _ _ 20 [some (.ref r0), some (.int l1), some (.int l2), some (.int l3), none] [.int v12] g12 P
  refine sw_istore dX9_onPath_20 (by decide) rfl ?_
  show SW sc m_X9_onPath _ _ _ 22 [some (.ref r0), some (.int l1), some (.int l2), some (.int l3), some (.int v12)] [] g12 P
  refine sw_iload dX9_onPath_22 rfl ?_
  refine sw_iconst (v := (-1)) dX9_onPath_24 (by decide) ?_
  exact sw_icmp_ne dX9_onPath_25 (by decide) (fun q => (sw_fg [true, true, true, true, false] rfl (kt q))) (fun q => (sw_fg [true, true, true, true, true] rfl (kf q)))
theorem bx_X9_onPath_0_2 {r0 : Nat} {l1 : Int32} {l2 : Int32} {l3 : Int32} {E : Nat} {g3 : ab_H} {fs3 : List Value} (hr3 : (h)[r0]? = some (9, fs3)) (hm3 : MSX m_X9_needVertex d [.ref r0, .int l1] h E g3) (hx : ST sc m_X9_onPath (d + 1) rc rs 2 [some (.ref r0), some (.int l1), some (.int l2), some (.int l3), none] g3 E P) : SW sc m_X9_onPath (d + 1) (rc + 1) (rs + 6) 0 [some (.ref r0), some (.int l1), some (.int l2), some (.int l3), none] [] h P := by
  refine sw_aload_n dX9_onPath_0 rfl ?_
  refine sw_iload_n dX9_onPath_1 rfl ?_
  exact sw_xV (M := m_X9_onPath) dX9_onPath_2 lv_X9_146 hm3 hr3 rfl (by decide) rfl rfl rfl (Nat.le_of_ble_eq_true rfl) (fun _ _ => rfl) rfl hx
theorem bx_X9_onPath_0_7 {r0 : Nat} {l1 : Int32} {l2 : Int32} {l3 : Int32} {g3 : ab_H} {fs3 : List Value} {E : Nat} {g6 : ab_H} {fs6 : List Value} (hr3 : (h)[r0]? = some (9, fs3)) (hm3 : MSE m_X9_needVertex d [.ref r0, .int l1] h none g3) (hr6 : (g3)[r0]? = some (9, fs6)) (hm6 : MSX m_X9_needVertex d [.ref r0, .int l2] g3 E g6) (hx : ST sc m_X9_onPath (d + 1) rc rs 7 [some (.ref r0), some (.int l1), some (.int l2), some (.int l3), none] g6 E P) : SW sc m_X9_onPath (d + 1) (rc + 1) (rs + 6) 0 [some (.ref r0), some (.int l1), some (.int l2), some (.int l3), none] [] h P := by
  refine sw_aload_n dX9_onPath_0 rfl ?_
  refine sw_iload_n dX9_onPath_1 rfl ?_
  refine sw_cV (M := m_X9_onPath) dX9_onPath_2 lv_X9_146 hm3 hr3 rfl (by decide) rfl rfl rfl (Nat.le_of_ble_eq_true rfl) (fun _ _ => rfl) rfl ?_
  show SW sc m_X9_onPath _ _ _ 5 [some (.ref r0), some (.int l1), some (.int l2), some (.int l3), none] [] g3 P
  refine sw_aload_n dX9_onPath_5 rfl ?_
  refine sw_iload_n dX9_onPath_6 rfl ?_
  exact sw_xV (M := m_X9_onPath) dX9_onPath_7 lv_X9_146 hm6 hr6 rfl (by decide) rfl rfl rfl (Nat.le_of_ble_eq_true rfl) (fun _ _ => rfl) rfl hx
theorem b_X9_onPath_28  (hP : P (.inr 4) h) : SW sc m_X9_onPath d (rc + 1) (rs + 6) 28 [none, none, none, none, none] [] h P := by
  exact sw_throwN (M := m_X9_onPath) dX9_onPath_28 dX9_onPath_31 dX9_onPath_32 dX9_onPath_34 dX9_onPath_37 lt_X9_4 sr_X9_205 (Nat.le_of_ble_eq_true rfl) (fun _ _ => rfl) (st_out rfl hP)
theorem b_X9_onPath_38 {l4 : Int32} (hP : P (.inl (some (.int l4))) h) : SW sc m_X9_onPath d rc rs 38 [none, none, none, none, some (.int l4)] [] h P := by
  refine sw_iload dX9_onPath_38 rfl ?_
  exact sw_ret (v := (some (.int l4))) dX9_onPath_40 rt_i hP
theorem b_X9_median_0 {r0 : Nat} {l1 : Int32} {l2 : Int32} {l3 : Int32} {g3 : ab_H} {fs3 : List Value} {g6 : ab_H} {fs6 : List Value} {g9 : ab_H} {fs9 : List Value} {fs11 : List Value} {a11 : Nat} {v14 : Int32} {g14 : ab_H} {fs14 : List Value} {fs16 : List Value} {a16 : Nat} {v19 : Int32} {g19 : ab_H} {fs19 : List Value} {fs22 : List Value} {a22 : Nat} {v25 : Int32} {g25 : ab_H} {fs25 : List Value} (hr3 : (h)[r0]? = some (9, fs3)) (hm3 : MSE m_X9_needVertex d [.ref r0, .int l1] h none g3) (hr6 : (g3)[r0]? = some (9, fs6)) (hm6 : MSE m_X9_needVertex d [.ref r0, .int l2] g3 none g6) (hr9 : (g6)[r0]? = some (9, fs9)) (hm9 : MSE m_X9_needVertex d [.ref r0, .int l3] g6 none g9) (hc11 : (g9)[r0]? = some (9, fs11)) (hv11 : fs11[2]? = some (.ref a11)) (hr14 : (g9)[a11]? = some (3, fs14)) (hm14 : MSE m_X3_pathSet d [.ref a11, .int l1, .int l2] g9 (some (.int v14)) g14) (hc16 : (g14)[r0]? = some (9, fs16)) (hv16 : fs16[2]? = some (.ref a16)) (hr19 : (g14)[a16]? = some (3, fs19)) (hm19 : MSE m_X3_pathSet d [.ref a16, .int l2, .int l3] g14 (some (.int v19)) g19) (hc22 : (g19)[r0]? = some (9, fs22)) (hv22 : fs22[2]? = some (.ref a22)) (hr25 : (g19)[a22]? = some (3, fs25)) (hm25 : MSE m_X3_pathSet d [.ref a22, .int l1, .int l3] g19 (some (.int v25)) g25) (kt : ¬ ((v14 &&& v19) &&& v25) = 0 → SW sc m_X9_median (d + 1) rc rs 61 [none, none, none, none, some (.int ((v14 &&& v19) &&& v25))] [] g25 P) (kf : ((v14 &&& v19) &&& v25) = 0 → SW sc m_X9_median (d + 1) rc rs 51 [none, none, none, none, none] [] g25 P) : SW sc m_X9_median (d + 1) rc rs 0 [some (.ref r0), some (.int l1), some (.int l2), some (.int l3), none] [] h P := by
  refine sw_aload_n dX9_median_0 rfl ?_
  refine sw_iload_n dX9_median_1 rfl ?_
  refine sw_cV (M := m_X9_median) dX9_median_2 lv_X9_146 hm3 hr3 rfl (by decide) rfl rfl rfl (Nat.le_of_ble_eq_true rfl) (fun _ _ => rfl) rfl ?_
  show SW sc m_X9_median _ _ _ 5 [some (.ref r0), some (.int l1), some (.int l2), some (.int l3), none] [] g3 P
  refine sw_aload_n dX9_median_5 rfl ?_
  refine sw_iload_n dX9_median_6 rfl ?_
  refine sw_cV (M := m_X9_median) dX9_median_7 lv_X9_146 hm6 hr6 rfl (by decide) rfl rfl rfl (Nat.le_of_ble_eq_true rfl) (fun _ _ => rfl) rfl ?_
  show SW sc m_X9_median _ _ _ 10 [some (.ref r0), some (.int l1), some (.int l2), some (.int l3), none] [] g6 P
  refine sw_aload_n dX9_median_10 rfl ?_
  refine sw_iload_n dX9_median_11 rfl ?_
  refine sw_cV (M := m_X9_median) dX9_median_12 lv_X9_146 hm9 hr9 rfl (by decide) rfl rfl rfl (Nat.le_of_ble_eq_true rfl) (fun _ _ => rfl) rfl ?_
  show SW sc m_X9_median _ _ _ 15 [some (.ref r0), some (.int l1), some (.int l2), some (.int l3), none] [] g9 P
  refine sw_aload_n dX9_median_15 rfl ?_
  refine sw_getf dX9_median_16 lf_X9_26 hc11 hv11 ?_
  refine sw_iload_n dX9_median_19 rfl ?_
  refine sw_iload_n dX9_median_20 rfl ?_
  refine sw_cV (M := m_X9_median) dX9_median_21 lv_X9_208 hm14 hr14 rfl (by decide) rfl rfl rfl (Nat.le_of_ble_eq_true rfl) (fun _ _ => rfl) rfl ?_
  show SW sc m_X9_median _ _ _ 24 [some (.ref r0), some (.int l1), some (.int l2), some (.int l3), none] [.int v14] g14 P
  refine sw_aload_n dX9_median_24 rfl ?_
  refine sw_getf dX9_median_25 lf_X9_26 hc16 hv16 ?_
  refine sw_iload_n dX9_median_28 rfl ?_
  refine sw_iload_n dX9_median_29 rfl ?_
  refine sw_cV (M := m_X9_median) dX9_median_30 lv_X9_208 hm19 hr19 rfl (by decide) rfl rfl rfl (Nat.le_of_ble_eq_true rfl) (fun _ _ => rfl) rfl ?_
  show SW sc m_X9_median _ _ _ 33 [some (.ref r0), some (.int l1), some (.int l2), some (.int l3), none] [.int v19, .int v14] g19 P
  refine sw_iand dX9_median_33 ?_
  refine sw_aload_n dX9_median_34 rfl ?_
  refine sw_getf dX9_median_35 lf_X9_26 hc22 hv22 ?_
  refine sw_iload_n dX9_median_38 rfl ?_
  refine sw_iload_n dX9_median_39 rfl ?_
  refine sw_cV (M := m_X9_median) dX9_median_40 lv_X9_208 hm25 hr25 rfl (by decide) rfl rfl rfl (Nat.le_of_ble_eq_true rfl) (fun _ _ => rfl) rfl ?_
  show SW sc m_X9_median _ _ _ 43 [some (.ref r0), some (.int l1), some (.int l2), some (.int l3), none] [.int v25, .int (v14 &&& v19)] g25 P
  refine sw_iand dX9_median_43 ?_
  refine sw_istore dX9_median_44 (by decide) rfl ?_
  show SW sc m_X9_median _ _ _ 46 [some (.ref r0), some (.int l1), some (.int l2), some (.int l3), some (.int ((v14 &&& v19) &&& v25))] [] g25 P
  refine sw_iload dX9_median_46 rfl ?_
  exact sw_if_ne dX9_median_48 (by decide) (fun q => (sw_fg [true, true, true, true, false] rfl (kt q))) (fun q => (sw_fg [true, true, true, true, true] rfl (kf q)))
theorem bx_X9_median_0_2 {r0 : Nat} {l1 : Int32} {l2 : Int32} {l3 : Int32} {E : Nat} {g3 : ab_H} {fs3 : List Value} (hr3 : (h)[r0]? = some (9, fs3)) (hm3 : MSX m_X9_needVertex d [.ref r0, .int l1] h E g3) (hx : ST sc m_X9_median (d + 1) rc rs 2 [some (.ref r0), some (.int l1), some (.int l2), some (.int l3), none] g3 E P) : SW sc m_X9_median (d + 1) (rc + 1) (rs + 6) 0 [some (.ref r0), some (.int l1), some (.int l2), some (.int l3), none] [] h P := by
  refine sw_aload_n dX9_median_0 rfl ?_
  refine sw_iload_n dX9_median_1 rfl ?_
  exact sw_xV (M := m_X9_median) dX9_median_2 lv_X9_146 hm3 hr3 rfl (by decide) rfl rfl rfl (Nat.le_of_ble_eq_true rfl) (fun _ _ => rfl) rfl hx
theorem bx_X9_median_0_7 {r0 : Nat} {l1 : Int32} {l2 : Int32} {l3 : Int32} {g3 : ab_H} {fs3 : List Value} {E : Nat} {g6 : ab_H} {fs6 : List Value} (hr3 : (h)[r0]? = some (9, fs3)) (hm3 : MSE m_X9_needVertex d [.ref r0, .int l1] h none g3) (hr6 : (g3)[r0]? = some (9, fs6)) (hm6 : MSX m_X9_needVertex d [.ref r0, .int l2] g3 E g6) (hx : ST sc m_X9_median (d + 1) rc rs 7 [some (.ref r0), some (.int l1), some (.int l2), some (.int l3), none] g6 E P) : SW sc m_X9_median (d + 1) (rc + 1) (rs + 6) 0 [some (.ref r0), some (.int l1), some (.int l2), some (.int l3), none] [] h P := by
  refine sw_aload_n dX9_median_0 rfl ?_
  refine sw_iload_n dX9_median_1 rfl ?_
  refine sw_cV (M := m_X9_median) dX9_median_2 lv_X9_146 hm3 hr3 rfl (by decide) rfl rfl rfl (Nat.le_of_ble_eq_true rfl) (fun _ _ => rfl) rfl ?_
  show SW sc m_X9_median _ _ _ 5 [some (.ref r0), some (.int l1), some (.int l2), some (.int l3), none] [] g3 P
  refine sw_aload_n dX9_median_5 rfl ?_
  refine sw_iload_n dX9_median_6 rfl ?_
  exact sw_xV (M := m_X9_median) dX9_median_7 lv_X9_146 hm6 hr6 rfl (by decide) rfl rfl rfl (Nat.le_of_ble_eq_true rfl) (fun _ _ => rfl) rfl hx
theorem bx_X9_median_0_12 {r0 : Nat} {l1 : Int32} {l2 : Int32} {l3 : Int32} {g3 : ab_H} {fs3 : List Value} {g6 : ab_H} {fs6 : List Value} {E : Nat} {g9 : ab_H} {fs9 : List Value} (hr3 : (h)[r0]? = some (9, fs3)) (hm3 : MSE m_X9_needVertex d [.ref r0, .int l1] h none g3) (hr6 : (g3)[r0]? = some (9, fs6)) (hm6 : MSE m_X9_needVertex d [.ref r0, .int l2] g3 none g6) (hr9 : (g6)[r0]? = some (9, fs9)) (hm9 : MSX m_X9_needVertex d [.ref r0, .int l3] g6 E g9) (hx : ST sc m_X9_median (d + 1) rc rs 12 [some (.ref r0), some (.int l1), some (.int l2), some (.int l3), none] g9 E P) : SW sc m_X9_median (d + 1) (rc + 1) (rs + 6) 0 [some (.ref r0), some (.int l1), some (.int l2), some (.int l3), none] [] h P := by
  refine sw_aload_n dX9_median_0 rfl ?_
  refine sw_iload_n dX9_median_1 rfl ?_
  refine sw_cV (M := m_X9_median) dX9_median_2 lv_X9_146 hm3 hr3 rfl (by decide) rfl rfl rfl (Nat.le_of_ble_eq_true rfl) (fun _ _ => rfl) rfl ?_
  show SW sc m_X9_median _ _ _ 5 [some (.ref r0), some (.int l1), some (.int l2), some (.int l3), none] [] g3 P
  refine sw_aload_n dX9_median_5 rfl ?_
  refine sw_iload_n dX9_median_6 rfl ?_
  refine sw_cV (M := m_X9_median) dX9_median_7 lv_X9_146 hm6 hr6 rfl (by decide) rfl rfl rfl (Nat.le_of_ble_eq_true rfl) (fun _ _ => rfl) rfl ?_
  show SW sc m_X9_median _ _ _ 10 [some (.ref r0), some (.int l1), some (.int l2), some (.int l3), none] [] g6 P
  refine sw_aload_n dX9_median_10 rfl ?_
  refine sw_iload_n dX9_median_11 rfl ?_
  exact sw_xV (M := m_X9_median) dX9_median_12 lv_X9_146 hm9 hr9 rfl (by decide) rfl rfl rfl (Nat.le_of_ble_eq_true rfl) (fun _ _ => rfl) rfl hx
theorem b_X9_median_51  (hP : P (.inr 4) h) : SW sc m_X9_median d (rc + 1) (rs + 6) 51 [none, none, none, none, none] [] h P := by
  exact sw_throwN (M := m_X9_median) dX9_median_51 dX9_median_54 dX9_median_55 dX9_median_57 dX9_median_60 lt_X9_4 sr_X9_211 (Nat.le_of_ble_eq_true rfl) (fun _ _ => rfl) (st_out rfl hP)
theorem b_X9_median_61 {l4 : Int32} {v2 : Int32} {g2 : ab_H} (hm2 : MSE m_X9_lowest d [.int l4] h (some (.int v2)) g2) (hP : P (.inl (some (.int v2))) g2) : SW sc m_X9_median (d + 1) rc rs 61 [none, none, none, none, some (.int l4)] [] h P := by
  refine sw_iload dX9_median_61 rfl ?_
  refine sw_cS (M := m_X9_median) dX9_median_63 ls_X9_213 hm2 rfl rfl (Nat.le_of_ble_eq_true rfl) (fun _ _ => rfl) rfl ?_
  show SW sc m_X9_median _ _ _ 66 [none, none, none, none, some (.int l4)] [.int v2] g2 P
  exact sw_ret (v := (some (.int v2))) dX9_median_66 rt_i hP
theorem b_X9_meanDistance_0 {r0 : Nat} {l1 : Int32} {g3 : ab_H} {fs3 : List Value} {fs5 : List Value} {a5 : Nat} {v7 : Int32} {g7 : ab_H} {fs7 : List Value} (hr3 : (h)[r0]? = some (9, fs3)) (hm3 : MSE m_X9_needVertex d [.ref r0, .int l1] h none g3) (hc5 : (g3)[r0]? = some (9, fs5)) (hv5 : fs5[2]? = some (.ref a5)) (hr7 : (g3)[a5]? = some (3, fs7)) (hm7 : MSE m_X3_componentWith d [.ref a5, .int l1] g3 (some (.int v7)) g7) (k : SW sc m_X9_meanDistance (d + 1) rc rs 19 [some (.ref r0), some (.int l1), some (.int v7), some (.int 0), some (.int 0)] [] g7 P) : SW sc m_X9_meanDistance (d + 1) rc rs 0 [some (.ref r0), some (.int l1), none, none, none] [] h P := by
  refine sw_aload_n dX9_meanDistance_0 rfl ?_
  refine sw_iload_n dX9_meanDistance_1 rfl ?_
  refine sw_cV (M := m_X9_meanDistance) dX9_meanDistance_2 lv_X9_146 hm3 hr3 rfl (by decide) rfl rfl rfl (Nat.le_of_ble_eq_true rfl) (fun _ _ => rfl) rfl ?_
  show SW sc m_X9_meanDistance _ _ _ 5 [some (.ref r0), some (.int l1), none, none, none] [] g3 P
  refine sw_aload_n dX9_meanDistance_5 rfl ?_
  refine sw_getf dX9_meanDistance_6 lf_X9_26 hc5 hv5 ?_
  refine sw_iload_n dX9_meanDistance_9 rfl ?_
  refine sw_cV (M := m_X9_meanDistance) dX9_meanDistance_10 lv_X9_158 hm7 hr7 rfl (by decide) rfl rfl rfl (Nat.le_of_ble_eq_true rfl) (fun _ _ => rfl) rfl ?_
  show SW sc m_X9_meanDistance _ _ _ 13 [some (.ref r0), some (.int l1), none, none, none] [.int v7] g7 P
  refine sw_istore_n dX9_meanDistance_13 (by decide) rfl ?_
  show SW sc m_X9_meanDistance _ _ _ 14 [some (.ref r0), some (.int l1), some (.int v7), none, none] [] g7 P
  refine sw_iconst (v := 0) dX9_meanDistance_14 (by decide) ?_
  refine sw_istore_n dX9_meanDistance_15 (by decide) rfl ?_
  show SW sc m_X9_meanDistance _ _ _ 16 [some (.ref r0), some (.int l1), some (.int v7), some (.int 0), none] [] g7 P
  refine sw_iconst (v := 0) dX9_meanDistance_16 (by decide) ?_
  refine sw_istore dX9_meanDistance_17 (by decide) rfl ?_
  show SW sc m_X9_meanDistance _ _ _ 19 [some (.ref r0), some (.int l1), some (.int v7), some (.int 0), some (.int 0)] [] g7 P
  exact (k)
theorem bx_X9_meanDistance_0_2 {r0 : Nat} {l1 : Int32} {E : Nat} {g3 : ab_H} {fs3 : List Value} (hr3 : (h)[r0]? = some (9, fs3)) (hm3 : MSX m_X9_needVertex d [.ref r0, .int l1] h E g3) (hx : ST sc m_X9_meanDistance (d + 1) rc rs 2 [some (.ref r0), some (.int l1), none, none, none] g3 E P) : SW sc m_X9_meanDistance (d + 1) (rc + 1) (rs + 6) 0 [some (.ref r0), some (.int l1), none, none, none] [] h P := by
  refine sw_aload_n dX9_meanDistance_0 rfl ?_
  refine sw_iload_n dX9_meanDistance_1 rfl ?_
  exact sw_xV (M := m_X9_meanDistance) dX9_meanDistance_2 lv_X9_146 hm3 hr3 rfl (by decide) rfl rfl rfl (Nat.le_of_ble_eq_true rfl) (fun _ _ => rfl) rfl hx
theorem b_X9_meanDistance_19 {r0 : Nat} {l1 : Int32} {l2 : Int32} {l3 : Int32} {l4 : Int32} {fs3 : List Value} {a3 : Nat} {fs4 : List Value} {x4 : Int32} (hc3 : (h)[r0]? = some (9, fs3)) (hv3 : fs3[2]? = some (.ref a3)) (hc4 : (h)[a3]? = some (3, fs4)) (hv4 : fs4[2]? = some (.int x4)) (kt : x4 ≤ l4 → SW sc m_X9_meanDistance d rc rs 59 [none, none, some (.int l2), some (.int l3), none] [] h P) (kf : ¬ (x4 ≤ l4) → SW sc m_X9_meanDistance d rc rs 31 [some (.ref r0), some (.int l1), some (.int l2), some (.int l3), some (.int l4)] [] h P) : SW sc m_X9_meanDistance d rc rs 19 [some (.ref r0), some (.int l1), some (.int l2), some (.int l3), some (.int l4)] [] h P := by
  refine sw_iload dX9_meanDistance_19 rfl ?_
  refine sw_aload_n dX9_meanDistance_21 rfl ?_
  refine sw_getf dX9_meanDistance_22 lf_X9_26 hc3 hv3 ?_
  refine sw_getf dX9_meanDistance_25 lf_X9_110 hc4 hv4 ?_
  exact sw_icmp_ge dX9_meanDistance_28 (by decide) (fun q => (sw_fg [true, true, false, false, true] rfl (kt q))) (fun q => (kf q))
theorem b_X9_meanDistance_31 {r0 : Nat} {l1 : Int32} {l2 : Int32} {l3 : Int32} {l4 : Int32} {v3 : Int32} {g3 : ab_H} (hm3 : MSE m_X9_holds d [.int l2, .int l4] h (some (.int v3)) g3) (kt : v3 = 0 → SW sc m_X9_meanDistance (d + 1) rc rs 53 [some (.ref r0), some (.int l1), some (.int l2), some (.int l3), some (.int l4)] [] g3 P) (kf : ¬ (v3 = 0) → SW sc m_X9_meanDistance (d + 1) rc rs 40 [some (.ref r0), some (.int l1), some (.int l2), some (.int l3), some (.int l4)] [] g3 P) : SW sc m_X9_meanDistance (d + 1) rc rs 31 [some (.ref r0), some (.int l1), some (.int l2), some (.int l3), some (.int l4)] [] h P := by
  refine sw_iload_n dX9_meanDistance_31 rfl ?_
  refine sw_iload dX9_meanDistance_32 rfl ?_
  refine sw_cS (M := m_X9_meanDistance) dX9_meanDistance_34 ls_X9_216 hm3 rfl rfl (Nat.le_of_ble_eq_true rfl) (fun _ _ => rfl) rfl ?_
  show SW sc m_X9_meanDistance _ _ _ 37 [some (.ref r0), some (.int l1), some (.int l2), some (.int l3), some (.int l4)] [.int v3] g3 P
  exact sw_if_eq dX9_meanDistance_37 (by decide) (fun q => (kt q)) (fun q => (kf q))
theorem b_X9_meanDistance_40 {r0 : Nat} {l1 : Int32} {l2 : Int32} {l3 : Int32} {l4 : Int32} {fs3 : List Value} {a3 : Nat} {v6 : Int32} {g6 : ab_H} {fs6 : List Value} (hc3 : (h)[r0]? = some (9, fs3)) (hv3 : fs3[2]? = some (.ref a3)) (hr6 : (h)[a3]? = some (3, fs6)) (hm6 : MSE m_X3_steps d [.ref a3, .int l1, .int l4] h (some (.int v6)) g6) (k : SW sc m_X9_meanDistance (d + 1) rc rs 53 [some (.ref r0), some (.int l1), some (.int l2), some (.int (l3 + v6)), some (.int l4)] [] g6 P) : SW sc m_X9_meanDistance (d + 1) rc rs 40 [some (.ref r0), some (.int l1), some (.int l2), some (.int l3), some (.int l4)] [] h P := by
  refine sw_iload_n dX9_meanDistance_40 rfl ?_
  refine sw_aload_n dX9_meanDistance_41 rfl ?_
  refine sw_getf dX9_meanDistance_42 lf_X9_26 hc3 hv3 ?_
  refine sw_iload_n dX9_meanDistance_45 rfl ?_
  refine sw_iload dX9_meanDistance_46 rfl ?_
  refine sw_cV (M := m_X9_meanDistance) dX9_meanDistance_48 lv_X9_196 hm6 hr6 rfl (by decide) rfl rfl rfl (Nat.le_of_ble_eq_true rfl) (fun _ _ => rfl) rfl ?_
  show SW sc m_X9_meanDistance _ _ _ 51 [some (.ref r0), some (.int l1), some (.int l2), some (.int l3), some (.int l4)] [.int v6, .int l3] g6 P
  refine sw_iadd dX9_meanDistance_51 ?_
  refine sw_istore_n dX9_meanDistance_52 (by decide) rfl ?_
  show SW sc m_X9_meanDistance _ _ _ 53 [some (.ref r0), some (.int l1), some (.int l2), some (.int (l3 + v6)), some (.int l4)] [] g6 P
  exact (k)
theorem b_X9_meanDistance_53 {r0 : Nat} {l1 : Int32} {l2 : Int32} {l3 : Int32} {l4 : Int32} (k : SW sc m_X9_meanDistance d rc rs 19 [some (.ref r0), some (.int l1), some (.int l2), some (.int l3), some (.int (l4 + 1))] [] h P) : SW sc m_X9_meanDistance d rc rs 53 [some (.ref r0), some (.int l1), some (.int l2), some (.int l3), some (.int l4)] [] h P := by
  refine sw_iinc (v := l4 + 1) dX9_meanDistance_53 rfl rfl (by decide) rfl ?_
  show SW sc m_X9_meanDistance _ _ _ 56 [some (.ref r0), some (.int l1), some (.int l2), some (.int l3), some (.int (l4 + 1))] [] h P
  exact sw_goto dX9_meanDistance_56 (by decide) (k)
theorem b_X9_meanDistance_59 {l2 : Int32} {l3 : Int32} {v2 : Int32} {g2 : ab_H} (hm2 : MSE m_J6_bitCount_0f7a4 d [.int l2] h (some (.int v2)) g2) (kt : ¬ v2 = 0 → SW sc m_X9_meanDistance (d + 1) rc rs 74 [none, none, none, some (.int l3), some (.int v2)] [] g2 P) (kf : v2 = 0 → SW sc m_X9_meanDistance (d + 1) rc rs 70 [none, none, none, none, none] [] g2 P) : SW sc m_X9_meanDistance (d + 1) rc rs 59 [none, none, some (.int l2), some (.int l3), none] [] h P := by
  refine sw_iload_n dX9_meanDistance_59 rfl ?_
  refine sw_cS (M := m_X9_meanDistance) dX9_meanDistance_60 ls_X9_161 hm2 rfl rfl (Nat.le_of_ble_eq_true rfl) (fun _ _ => rfl) rfl ?_
  show SW sc m_X9_meanDistance _ _ _ 63 [none, none, some (.int l2), some (.int l3), none] [.int v2] g2 P
  refine sw_istore dX9_meanDistance_63 (by decide) rfl ?_
  show SW sc m_X9_meanDistance _ _ _ 65 [none, none, some (.int l2), some (.int l3), some (.int v2)] [] g2 P
  refine sw_iload dX9_meanDistance_65 rfl ?_
  exact sw_if_ne dX9_meanDistance_67 (by decide) (fun q => (sw_fg [false, false, true, false, false] rfl (kt q))) (fun q => (sw_fg [false, false, true, true, true] rfl (kf q)))
theorem b_X9_meanDistance_70  (k : SW sc m_X9_meanDistance d rc rs 80 [none, none, none, none, none] [.double 0] h P) : SW sc m_X9_meanDistance d rc rs 70 [none, none, none, none, none] [] h P := by
  refine sw_dconst0 dX9_meanDistance_70 ?_
  exact sw_goto dX9_meanDistance_71 (by decide) (k)
theorem b_X9_meanDistance_74 {l3 : Int32} {l4 : Int32} (hz5 : vf_n64 (FP.ddiv (FP.i2d l3) (FP.i2d l4))) (k : SW sc m_X9_meanDistance d rc rs 80 [none, none, none, none, none] [.double (FP.ddiv (FP.i2d l3) (FP.i2d l4))] h P) : SW sc m_X9_meanDistance d rc rs 74 [none, none, none, some (.int l3), some (.int l4)] [] h P := by
  refine sw_iload_n dX9_meanDistance_74 rfl ?_
  refine sw_i2d dX9_meanDistance_75 ?_
  refine sw_iload dX9_meanDistance_76 rfl ?_
  refine sw_i2d dX9_meanDistance_78 ?_
  refine sw_ddiv dX9_meanDistance_79 hz5 ?_
  exact (sw_fg [false, false, false, true, true] rfl (k))
theorem b_X9_meanDistance_80 {s0 : UInt64} (hP : P (.inl (some (.double s0))) h) : SW sc m_X9_meanDistance d rc rs 80 [none, none, none, none, none] [.double s0] h P := by
  exact sw_ret (v := (some (.double s0))) dX9_meanDistance_80 rt_d hP
theorem b_X9_balance_0 {r0 : Nat} {l1 : Int32} {g3 : ab_H} {fs3 : List Value} {fs5 : List Value} {a5 : Nat} {v7 : Int32} {g7 : ab_H} {fs7 : List Value} {v8 : Int32} {g8 : ab_H} (hr3 : (h)[r0]? = some (9, fs3)) (hm3 : MSE m_X9_needVertex d [.ref r0, .int l1] h none g3) (hc5 : (g3)[r0]? = some (9, fs5)) (hv5 : fs5[2]? = some (.ref a5)) (hr7 : (g3)[a5]? = some (3, fs7)) (hm7 : MSE m_X3_componentWith d [.ref a5, .int l1] g3 (some (.int v7)) g7) (hm8 : MSE m_J6_bitCount_0f7a4 d [.int v7] g7 (some (.int v8)) g8) (kt : ¬ v8 = 0 → SW sc m_X9_balance (d + 1) rc rs 25 [some (.ref r0), some (.int l1), some (.int v8)] [] g8 P) (kf : v8 = 0 → SW sc m_X9_balance (d + 1) rc rs 21 [none, none, none] [] g8 P) : SW sc m_X9_balance (d + 1) rc rs 0 [some (.ref r0), some (.int l1), none] [] h P := by
  refine sw_aload_n dX9_balance_0 rfl ?_
  refine sw_iload_n dX9_balance_1 rfl ?_
  refine sw_cV (M := m_X9_balance) dX9_balance_2 lv_X9_146 hm3 hr3 rfl (by decide) rfl rfl rfl (Nat.le_of_ble_eq_true rfl) (fun _ _ => rfl) rfl ?_
  show SW sc m_X9_balance _ _ _ 5 [some (.ref r0), some (.int l1), none] [] g3 P
  refine sw_aload_n dX9_balance_5 rfl ?_
  refine sw_getf dX9_balance_6 lf_X9_26 hc5 hv5 ?_
  refine sw_iload_n dX9_balance_9 rfl ?_
  refine sw_cV (M := m_X9_balance) dX9_balance_10 lv_X9_158 hm7 hr7 rfl (by decide) rfl rfl rfl (Nat.le_of_ble_eq_true rfl) (fun _ _ => rfl) rfl ?_
  show SW sc m_X9_balance _ _ _ 13 [some (.ref r0), some (.int l1), none] [.int v7] g7 P
  refine sw_cS (M := m_X9_balance) dX9_balance_13 ls_X9_161 hm8 rfl rfl (Nat.le_of_ble_eq_true rfl) (fun _ _ => rfl) rfl ?_
  show SW sc m_X9_balance _ _ _ 16 [some (.ref r0), some (.int l1), none] [.int v8] g8 P
  refine sw_istore_n dX9_balance_16 (by decide) rfl ?_
  show SW sc m_X9_balance _ _ _ 17 [some (.ref r0), some (.int l1), some (.int v8)] [] g8 P
  refine sw_iload_n dX9_balance_17 rfl ?_
  exact sw_if_ne dX9_balance_18 (by decide) (fun q => (kt q)) (fun q => (sw_fg [true, true, true] rfl (kf q)))
theorem bx_X9_balance_0_2 {r0 : Nat} {l1 : Int32} {E : Nat} {g3 : ab_H} {fs3 : List Value} (hr3 : (h)[r0]? = some (9, fs3)) (hm3 : MSX m_X9_needVertex d [.ref r0, .int l1] h E g3) (hx : ST sc m_X9_balance (d + 1) rc rs 2 [some (.ref r0), some (.int l1), none] g3 E P) : SW sc m_X9_balance (d + 1) (rc + 1) (rs + 6) 0 [some (.ref r0), some (.int l1), none] [] h P := by
  refine sw_aload_n dX9_balance_0 rfl ?_
  refine sw_iload_n dX9_balance_1 rfl ?_
  exact sw_xV (M := m_X9_balance) dX9_balance_2 lv_X9_146 hm3 hr3 rfl (by decide) rfl rfl rfl (Nat.le_of_ble_eq_true rfl) (fun _ _ => rfl) rfl hx
theorem b_X9_balance_21  (k : SW sc m_X9_balance d rc rs 38 [none, none, none] [.float 0] h P) : SW sc m_X9_balance d rc rs 21 [none, none, none] [] h P := by
  refine sw_fconst0 dX9_balance_21 ?_
  exact sw_goto dX9_balance_22 (by decide) (k)
theorem b_X9_balance_25 {r0 : Nat} {l1 : Int32} {l2 : Int32} {fs2 : List Value} {a2 : Nat} {v5 : Int32} {g5 : ab_H} {fs5 : List Value} (hc2 : (h)[r0]? = some (9, fs2)) (hv2 : fs2[2]? = some (.ref a2)) (hr5 : (h)[a2]? = some (3, fs5)) (hm5 : MSE m_X3_greatestPart d [.ref a2, .int l1, .int 0] h (some (.int v5)) g5) (hz9 : vf_n32 (FP.fdiv (FP.i2f v5) (FP.i2f l2))) (k : SW sc m_X9_balance (d + 1) rc rs 38 [none, none, none] [.float (FP.fdiv (FP.i2f v5) (FP.i2f l2))] g5 P) : SW sc m_X9_balance (d + 1) rc rs 25 [some (.ref r0), some (.int l1), some (.int l2)] [] h P := by
  refine sw_aload_n dX9_balance_25 rfl ?_
  refine sw_getf dX9_balance_26 lf_X9_26 hc2 hv2 ?_
  refine sw_iload_n dX9_balance_29 rfl ?_
  refine sw_iconst (v := 0) dX9_balance_30 (by decide) ?_
  refine sw_cV (M := m_X9_balance) dX9_balance_31 lv_X9_220 hm5 hr5 rfl (by decide) rfl rfl rfl (Nat.le_of_ble_eq_true rfl) (fun _ _ => rfl) rfl ?_
  show SW sc m_X9_balance _ _ _ 34 [some (.ref r0), some (.int l1), some (.int l2)] [.int v5] g5 P
  refine sw_i2f dX9_balance_34 ?_
  refine sw_iload_n dX9_balance_35 rfl ?_
  refine sw_i2f dX9_balance_36 ?_
  refine sw_fdiv dX9_balance_37 hz9 ?_
  exact (sw_fg [true, true, true] rfl (k))
theorem b_X9_balance_38 {s0 : UInt32} (hP : P (.inl (some (.float s0))) h) : SW sc m_X9_balance d rc rs 38 [none, none, none] [.float s0] h P := by
  exact sw_ret (v := (some (.float s0))) dX9_balance_38 rt_f hP
theorem b_X9_code_0 {r0 : Nat} {l1 : Int32} {g2 : ab_H} {fs2 : List Value} (hr2 : (h)[r0]? = some (9, fs2)) (hm2 : MSE m_X9_needTree d [.ref r0] h none g2) (kt : l1 < 0 → SW sc m_X9_code (d + 1) rc rs 22 [none, none] [] g2 P) (kf : ¬ (l1 < 0) → SW sc m_X9_code (d + 1) rc rs 8 [some (.ref r0), some (.int l1)] [] g2 P) : SW sc m_X9_code (d + 1) rc rs 0 [some (.ref r0), some (.int l1)] [] h P := by
  refine sw_aload_n dX9_code_0 rfl ?_
  refine sw_cV (M := m_X9_code) dX9_code_1 lv_X9_224 hm2 hr2 rfl (by decide) rfl rfl rfl (Nat.le_of_ble_eq_true rfl) (fun _ _ => rfl) rfl ?_
  show SW sc m_X9_code _ _ _ 4 [some (.ref r0), some (.int l1)] [] g2 P
  refine sw_iload_n dX9_code_4 rfl ?_
  exact sw_if_lt dX9_code_5 (by decide) (fun q => (sw_fg [true, true] rfl (kt q))) (fun q => (kf q))
theorem bx_X9_code_0_1 {r0 : Nat} {l1 : Int32} {E : Nat} {g2 : ab_H} {fs2 : List Value} (hr2 : (h)[r0]? = some (9, fs2)) (hm2 : MSX m_X9_needTree d [.ref r0] h E g2) (hx : ST sc m_X9_code (d + 1) rc rs 1 [some (.ref r0), some (.int l1)] g2 E P) : SW sc m_X9_code (d + 1) (rc + 1) (rs + 6) 0 [some (.ref r0), some (.int l1)] [] h P := by
  refine sw_aload_n dX9_code_0 rfl ?_
  exact sw_xV (M := m_X9_code) dX9_code_1 lv_X9_224 hm2 hr2 rfl (by decide) rfl rfl rfl (Nat.le_of_ble_eq_true rfl) (fun _ _ => rfl) rfl hx
theorem b_X9_code_8 {r0 : Nat} {l1 : Int32} {fs3 : List Value} {a3 : Nat} {fs4 : List Value} {x4 : Int32} {v5 : Int32} {g5 : ab_H} (hc3 : (h)[r0]? = some (9, fs3)) (hv3 : fs3[2]? = some (.ref a3)) (hc4 : (h)[a3]? = some (3, fs4)) (hv4 : fs4[2]? = some (.int x4)) (hm5 : MSE m_X9_codeLength d [.int x4] h (some (.int v5)) g5) (kt : l1 < v5 → SW sc m_X9_code (d + 1) rc rs 32 [some (.ref r0), some (.int l1)] [] g5 P) (kf : ¬ (l1 < v5) → SW sc m_X9_code (d + 1) rc rs 22 [none, none] [] g5 P) : SW sc m_X9_code (d + 1) rc rs 8 [some (.ref r0), some (.int l1)] [] h P := by
  refine sw_iload_n dX9_code_8 rfl ?_
  refine sw_aload_n dX9_code_9 rfl ?_
  refine sw_getf dX9_code_10 lf_X9_26 hc3 hv3 ?_
  refine sw_getf dX9_code_13 lf_X9_110 hc4 hv4 ?_
  refine sw_cS (M := m_X9_code) dX9_code_16 ls_X9_227 hm5 rfl rfl (Nat.le_of_ble_eq_true rfl) (fun _ _ => rfl) rfl ?_
  show SW sc m_X9_code _ _ _ 19 [some (.ref r0), some (.int l1)] [.int v5, .int l1] g5 P
  exact sw_icmp_lt dX9_code_19 (by decide) (fun q => (kt q)) (fun q => (sw_fg [true, true] rfl (kf q)))
end
