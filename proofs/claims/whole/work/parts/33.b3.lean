section
variable {sc : Option (List Int32)} {d rc rs : Nat} {h : ab_H} {P : ab_O → ab_H → Prop}
theorem bx_X9_swap_0_7 {r0 : Nat} {l1 : Int32} {l2 : Int32} {g3 : ab_H} {fs3 : List Value} {E : Nat} {g6 : ab_H} {fs6 : List Value} (hr3 : (h)[r0]? = some (9, fs3)) (hm3 : MSE m_X9_needVertex d [.ref r0, .int l1] h none g3) (hr6 : (g3)[r0]? = some (9, fs6)) (hm6 : MSX m_X9_needVertex d [.ref r0, .int l2] g3 E g6) (hx : ST sc m_X9_swap (d + 1) rc rs 7 [some (.ref r0), some (.int l1), some (.int l2), none] g6 E P) : SW sc m_X9_swap (d + 1) (rc + 1) (rs + 6) 0 [some (.ref r0), some (.int l1), some (.int l2), none] [] h P := by
  refine sw_aload_n dX9_swap_0 rfl ?_
  refine sw_iload_n dX9_swap_1 rfl ?_
  refine sw_cV (M := m_X9_swap) dX9_swap_2 lv_X9_146 hm3 hr3 rfl (by decide) rfl rfl rfl (Nat.le_of_ble_eq_true rfl) (fun _ _ => rfl) rfl ?_
  show SW sc m_X9_swap _ _ _ 5 [some (.ref r0), some (.int l1), some (.int l2), none] [] g3 P
  refine sw_aload_n dX9_swap_5 rfl ?_
  refine sw_iload_n dX9_swap_6 rfl ?_
  exact sw_xV (M := m_X9_swap) dX9_swap_7 lv_X9_146 hm6 hr6 rfl (by decide) rfl rfl rfl (Nat.le_of_ble_eq_true rfl) (fun _ _ => rfl) rfl hx
theorem b_X9_setWeight_0 {r0 : Nat} {l1 : Int32} {l2 : Int32} {g3 : ab_H} {fs3 : List Value} (hr3 : (h)[r0]? = some (9, fs3)) (hm3 : MSE m_X9_needVertex d [.ref r0, .int l1] h none g3) (kt : l2 < 0 → SW sc m_X9_setWeight (d + 1) rc rs 15 [none, none, none, none] [] g3 P) (kf : ¬ (l2 < 0) → SW sc m_X9_setWeight (d + 1) rc rs 9 [some (.ref r0), some (.int l1), some (.int l2), none] [] g3 P) : SW sc m_X9_setWeight (d + 1) rc rs 0 [some (.ref r0), some (.int l1), some (.int l2), none] [] h P := by
  refine sw_aload_n dX9_setWeight_0 rfl ?_
  refine sw_iload_n dX9_setWeight_1 rfl ?_
  refine sw_cV (M := m_X9_setWeight) dX9_setWeight_2 lv_X9_146 hm3 hr3 rfl (by decide) rfl rfl rfl (Nat.le_of_ble_eq_true rfl) (fun _ _ => rfl) rfl ?_
  show SW sc m_X9_setWeight _ _ _ 5 [some (.ref r0), some (.int l1), some (.int l2), none] [] g3 P
  refine sw_iload_n dX9_setWeight_5 rfl ?_
  exact sw_if_lt dX9_setWeight_6 (by decide) (fun q => (sw_fg [true, true, true, false] rfl (kt q))) (fun q => (kf q))
theorem bx_X9_setWeight_0_2 {r0 : Nat} {l1 : Int32} {l2 : Int32} {E : Nat} {g3 : ab_H} {fs3 : List Value} (hr3 : (h)[r0]? = some (9, fs3)) (hm3 : MSX m_X9_needVertex d [.ref r0, .int l1] h E g3) (hx : ST sc m_X9_setWeight (d + 1) rc rs 2 [some (.ref r0), some (.int l1), some (.int l2), none] g3 E P) : SW sc m_X9_setWeight (d + 1) (rc + 1) (rs + 6) 0 [some (.ref r0), some (.int l1), some (.int l2), none] [] h P := by
  refine sw_aload_n dX9_setWeight_0 rfl ?_
  refine sw_iload_n dX9_setWeight_1 rfl ?_
  exact sw_xV (M := m_X9_setWeight) dX9_setWeight_2 lv_X9_146 hm3 hr3 rfl (by decide) rfl rfl rfl (Nat.le_of_ble_eq_true rfl) (fun _ _ => rfl) rfl hx
theorem b_X9_setWeight_9 {r0 : Nat} {l1 : Int32} {l2 : Int32} (kt : l2 ≤ 99 → SW sc m_X9_setWeight d rc rs 26 [some (.ref r0), some (.int l1), some (.int l2), none] [] h P) (kf : ¬ (l2 ≤ 99) → SW sc m_X9_setWeight d rc rs 15 [none, none, none, none] [] h P) : SW sc m_X9_setWeight d rc rs 9 [some (.ref r0), some (.int l1), some (.int l2), none] [] h P := by
  refine sw_iload_n dX9_setWeight_9 rfl ?_
  refine sw_bipush (v := 99) dX9_setWeight_10 (by decide) ?_
  exact sw_icmp_le dX9_setWeight_12 (by decide) (fun q => (kt q)) (fun q => (sw_fg [true, true, true, false] rfl (kf q)))
theorem b_X9_setWeight_15  (hP : P (.inr 2) h) : SW sc m_X9_setWeight d (rc + 1) (rs + 6) 15 [none, none, none, none] [] h P := by
  exact sw_throwW (M := m_X9_setWeight) dX9_setWeight_15 dX9_setWeight_18 dX9_setWeight_19 dX9_setWeight_22 dX9_setWeight_25 lt_X9_2 sr_X9_328 (Nat.le_of_ble_eq_true rfl) (fun _ _ => rfl) (st_out rfl hP)
theorem b_X9_setWeight_26 {r0 : Nat} {l1 : Int32} {l2 : Int32} {fs2 : List Value} {a2 : Nat} {fs4 : List Value} {a4 : Nat} {v5 : Nat} {g5 : ab_H} {fs5 : List Value} {fs8 : List Value} {a8 : Nat} {v10 : Int32} {g10 : ab_H} {fs10 : List Value} {fs13 : List Value} {a13 : Nat} {g16 : ab_H} {fs16 : List Value} (hc2 : (h)[r0]? = some (9, fs2)) (hv2 : fs2[8]? = some (.ref a2)) (hc4 : (h)[r0]? = some (9, fs4)) (hv4 : fs4[2]? = some (.ref a4)) (hr5 : (h)[a2]? = some (5, fs5)) (hm5 : MSE m_X5_record d [.ref a2, .ref a4] h (some (.ref v5)) g5) (hc8 : (g5)[r0]? = some (9, fs8)) (hv8 : fs8[2]? = some (.ref a8)) (hr10 : (g5)[a8]? = some (3, fs10)) (hm10 : MSE m_X3_weightOf d [.ref a8, .int l1] g5 (some (.int v10)) g10) (hc13 : (g10)[r0]? = some (9, fs13)) (hv13 : fs13[2]? = some (.ref a13)) (hr16 : (g10)[a13]? = some (3, fs16)) (hm16 : MSE m_X3_weigh d [.ref a13, .int l1, .int l2] g10 none g16) (hP : P (.inl (some (.int v10))) g16) : SW sc m_X9_setWeight (d + 1) rc rs 26 [some (.ref r0), some (.int l1), some (.int l2), none] [] h P := by
  refine sw_aload_n dX9_setWeight_26 rfl ?_
  refine sw_getf dX9_setWeight_27 lf_X9_64 hc2 hv2 ?_
  refine sw_aload_n dX9_setWeight_30 rfl ?_
  refine sw_getf dX9_setWeight_31 lf_X9_26 hc4 hv4 ?_
  refine sw_cV (M := m_X9_setWeight) dX9_setWeight_34 lv_X9_302 hm5 hr5 rfl (by decide) rfl rfl rfl (Nat.le_of_ble_eq_true rfl) (fun _ _ => rfl) rfl ?_
  show SW sc m_X9_setWeight _ _ _ 37 [some (.ref r0), some (.int l1), some (.int l2), none] [.ref v5] g5 P
  refine sw_pop dX9_setWeight_37 (fun _ _ => rfl) ?_
  refine sw_aload_n dX9_setWeight_38 rfl ?_
  refine sw_getf dX9_setWeight_39 lf_X9_26 hc8 hv8 ?_
  refine sw_iload_n dX9_setWeight_42 rfl ?_
  refine sw_cV (M := m_X9_setWeight) dX9_setWeight_43 lv_X9_152 hm10 hr10 rfl (by decide) rfl rfl rfl (Nat.le_of_ble_eq_true rfl) (fun _ _ => rfl) rfl ?_
  show SW sc m_X9_setWeight _ _ _ 46 [some (.ref r0), some (.int l1), some (.int l2), none] [.int v10] g10 P
  refine sw_istore_n dX9_setWeight_46 (by decide) rfl ?_
  show SW sc m_X9_setWeight _ _ _ 47 [some (.ref r0), some (.int l1), some (.int l2), some (.int v10)] [] g10 P
  refine sw_aload_n dX9_setWeight_47 rfl ?_
  refine sw_getf dX9_setWeight_48 lf_X9_26 hc13 hv13 ?_
  refine sw_iload_n dX9_setWeight_51 rfl ?_
  refine sw_iload_n dX9_setWeight_52 rfl ?_
  refine sw_cV (M := m_X9_setWeight) dX9_setWeight_53 lv_X9_330 hm16 hr16 rfl (by decide) rfl rfl rfl (Nat.le_of_ble_eq_true rfl) (fun _ _ => rfl) rfl ?_
  show SW sc m_X9_setWeight _ _ _ 56 [some (.ref r0), some (.int l1), some (.int l2), some (.int v10)] [] g16 P
  refine sw_iload_n dX9_setWeight_56 rfl ?_
  exact sw_ret (v := (some (.int v10))) dX9_setWeight_57 rt_i hP
theorem b_X9_fromRank_0 {r0 : Nat} {l1 : Int32} (kt : l1 < 0 → SW sc m_X9_fromRank d rc rs 18 [none, none] [] h P) (kf : ¬ (l1 < 0) → SW sc m_X9_fromRank d rc rs 4 [some (.ref r0), some (.int l1)] [] h P) : SW sc m_X9_fromRank d rc rs 0 [some (.ref r0), some (.int l1)] [] h P := by
  refine sw_iload_n dX9_fromRank_0 rfl ?_
  exact sw_if_lt dX9_fromRank_1 (by decide) (fun q => (sw_fg [true, true] rfl (kt q))) (fun q => (kf q))
theorem b_X9_fromRank_4 {r0 : Nat} {l1 : Int32} {fs3 : List Value} {a3 : Nat} {fs4 : List Value} {x4 : Int32} {v5 : Int32} {g5 : ab_H} (hc3 : (h)[r0]? = some (9, fs3)) (hv3 : fs3[2]? = some (.ref a3)) (hc4 : (h)[a3]? = some (3, fs4)) (hv4 : fs4[2]? = some (.int x4)) (hm5 : MSE m_X9_treesWith d [.int x4] h (some (.int v5)) g5) (kt : l1 < v5 → SW sc m_X9_fromRank (d + 1) rc rs 29 [some (.ref r0), some (.int l1)] [] g5 P) (kf : ¬ (l1 < v5) → SW sc m_X9_fromRank (d + 1) rc rs 18 [none, none] [] g5 P) : SW sc m_X9_fromRank (d + 1) rc rs 4 [some (.ref r0), some (.int l1)] [] h P := by
  refine sw_iload_n dX9_fromRank_4 rfl ?_
  refine sw_aload_n dX9_fromRank_5 rfl ?_
  refine sw_getf dX9_fromRank_6 lf_X9_26 hc3 hv3 ?_
  refine sw_getf dX9_fromRank_9 lf_X9_110 hc4 hv4 ?_
  refine sw_cS (M := m_X9_fromRank) dX9_fromRank_12 ls_X9_333 hm5 rfl rfl (Nat.le_of_ble_eq_true rfl) (fun _ _ => rfl) rfl ?_
  show SW sc m_X9_fromRank _ _ _ 15 [some (.ref r0), some (.int l1)] [.int v5, .int l1] g5 P
  exact sw_icmp_lt dX9_fromRank_15 (by decide) (fun q => (kt q)) (fun q => (sw_fg [true, true] rfl (kf q)))
theorem b_X9_fromRank_18  (hP : P (.inr 2) h) : SW sc m_X9_fromRank d (rc + 1) (rs + 6) 18 [none, none] [] h P := by
  exact sw_throwW (M := m_X9_fromRank) dX9_fromRank_18 dX9_fromRank_21 dX9_fromRank_22 dX9_fromRank_25 dX9_fromRank_28 lt_X9_2 sr_X9_336 (Nat.le_of_ble_eq_true rfl) (fun _ _ => rfl) (st_out rfl hP)
theorem b_X9_fromRank_29 {r0 : Nat} {l1 : Int32} {v3 : Int32} {g3 : ab_H} {fs3 : List Value} (hr3 : (h)[r0]? = some (9, fs3)) (hm3 : MSE m_X9_becomeTree d [.ref r0, .int l1] h (some (.int v3)) g3) (hP : P (.inl (some (.int v3))) g3) : SW sc m_X9_fromRank (d + 1) rc rs 29 [some (.ref r0), some (.int l1)] [] h P := by
  refine sw_aload_n dX9_fromRank_29 rfl ?_
  refine sw_iload_n dX9_fromRank_30 rfl ?_
  refine sw_cV (M := m_X9_fromRank) dX9_fromRank_31 lv_X9_338 hm3 hr3 rfl (by decide) rfl rfl rfl (Nat.le_of_ble_eq_true rfl) (fun _ _ => rfl) rfl ?_
  show SW sc m_X9_fromRank _ _ _ 34 [some (.ref r0), some (.int l1)] [.int v3] g3 P
  exact sw_ret (v := (some (.int v3))) dX9_fromRank_34 rt_i hP
theorem b_X9_nextTree_0 {r0 : Nat} {fs2 : List Value} {a2 : Nat} {v3 : Int32} {g3 : ab_H} {fs3 : List Value} (hc2 : (h)[r0]? = some (9, fs2)) (hv2 : fs2[2]? = some (.ref a2)) (hr3 : (h)[a2]? = some (3, fs3)) (hm3 : MSE m_X3_components d [.ref a2] h (some (.int v3)) g3) (kt : ¬ v3 = 1 → SW sc m_X9_nextTree (d + 1) rc rs 27 [some (.ref r0), none] [] g3 P) (kf : v3 = 1 → SW sc m_X9_nextTree (d + 1) rc rs 11 [some (.ref r0), none] [] g3 P) : SW sc m_X9_nextTree (d + 1) rc rs 0 [some (.ref r0), none] [] h P := by
  refine sw_aload_n dX9_nextTree_0 rfl ?_
  refine sw_getf dX9_nextTree_1 lf_X9_26 hc2 hv2 ?_
  refine sw_cV (M := m_X9_nextTree) dX9_nextTree_4 lv_X9_113 hm3 hr3 rfl (by decide) rfl rfl rfl (Nat.le_of_ble_eq_true rfl) (fun _ _ => rfl) rfl ?_
  show SW sc m_X9_nextTree _ _ _ 7 [some (.ref r0), none] [.int v3] g3 P
  refine sw_iconst (v := 1) dX9_nextTree_7 (by decide) ?_
  exact sw_icmp_ne dX9_nextTree_8 (by decide) (fun q => (kt q)) (fun q => (kf q))
theorem b_X9_nextTree_11 {r0 : Nat} {fs2 : List Value} {a2 : Nat} {fs4 : List Value} {a4 : Nat} {v5 : Int32} {g5 : ab_H} {fs5 : List Value} (hc2 : (h)[r0]? = some (9, fs2)) (hv2 : fs2[4]? = some (.ref a2)) (hc4 : (h)[r0]? = some (9, fs4)) (hv4 : fs4[2]? = some (.ref a4)) (hr5 : (h)[a2]? = some (1, fs5)) (hm5 : MSE m_X1_rankOf d [.ref a2, .ref a4] h (some (.int v5)) g5) (k : SW sc m_X9_nextTree (d + 1) rc rs 37 [some (.ref r0), none] [.int (v5 + 1)] g5 P) : SW sc m_X9_nextTree (d + 1) rc rs 11 [some (.ref r0), none] [] h P := by
  refine sw_aload_n dX9_nextTree_11 rfl ?_
  refine sw_getf dX9_nextTree_12 lf_X9_36 hc2 hv2 ?_
  refine sw_aload_n dX9_nextTree_15 rfl ?_
  refine sw_getf dX9_nextTree_16 lf_X9_26 hc4 hv4 ?_
  refine sw_cV (M := m_X9_nextTree) dX9_nextTree_19 lv_X9_238 hm5 hr5 rfl (by decide) rfl rfl rfl (Nat.le_of_ble_eq_true rfl) (fun _ _ => rfl) rfl ?_
  show SW sc m_X9_nextTree _ _ _ 22 [some (.ref r0), none] [.int v5] g5 P
  refine sw_iconst (v := 1) dX9_nextTree_22 (by decide) ?_
  refine sw_iadd dX9_nextTree_23 ?_
  exact sw_goto dX9_nextTree_24 (by decide) (k)
theorem b_X9_nextTree_27 {r0 : Nat} {fs2 : List Value} {a2 : Nat} {fs3 : List Value} {x3 : Int32} {v4 : Int32} {g4 : ab_H} (hc2 : (h)[r0]? = some (9, fs2)) (hv2 : fs2[2]? = some (.ref a2)) (hc3 : (h)[a2]? = some (3, fs3)) (hv3 : fs3[2]? = some (.int x3)) (hm4 : MSE m_X9_treesWith d [.int x3] h (some (.int v4)) g4) (k : SW sc m_X9_nextTree (d + 1) rc rs 37 [some (.ref r0), none] [.int v4] g4 P) : SW sc m_X9_nextTree (d + 1) rc rs 27 [some (.ref r0), none] [] h P := by
  refine sw_aload_n dX9_nextTree_27 rfl ?_
  refine sw_getf dX9_nextTree_28 lf_X9_26 hc2 hv2 ?_
  refine sw_getf dX9_nextTree_31 lf_X9_110 hc3 hv3 ?_
  refine sw_cS (M := m_X9_nextTree) dX9_nextTree_34 ls_X9_333 hm4 rfl rfl (Nat.le_of_ble_eq_true rfl) (fun _ _ => rfl) rfl ?_
  show SW sc m_X9_nextTree _ _ _ 37 [some (.ref r0), none] [.int v4] g4 P
  exact (k)
theorem b_X9_nextTree_37 {r0 : Nat} {s0 : Int32} {fs4 : List Value} {a4 : Nat} {fs5 : List Value} {x5 : Int32} {v6 : Int32} {g6 : ab_H} (hc4 : (h)[r0]? = some (9, fs4)) (hv4 : fs4[2]? = some (.ref a4)) (hc5 : (h)[a4]? = some (3, fs5)) (hv5 : fs5[2]? = some (.int x5)) (hm6 : MSE m_X9_treesWith d [.int x5] h (some (.int v6)) g6) (kt : s0 < v6 → SW sc m_X9_nextTree (d + 1) rc rs 65 [some (.ref r0), some (.int s0)] [] g6 P) (kf : ¬ (s0 < v6) → SW sc m_X9_nextTree (d + 1) rc rs 52 [some (.ref r0), none] [] g6 P) : SW sc m_X9_nextTree (d + 1) rc rs 37 [some (.ref r0), none] [.int s0] h P := by
  refine sw_istore_n dX9_nextTree_37 (by decide) rfl ?_
  show SW sc m_X9_nextTree _ _ _ 38 [some (.ref r0), some (.int s0)] [] h P
  refine sw_iload_n dX9_nextTree_38 rfl ?_
  refine sw_aload_n dX9_nextTree_39 rfl ?_
  refine sw_getf dX9_nextTree_40 lf_X9_26 hc4 hv4 ?_
  refine sw_getf dX9_nextTree_43 lf_X9_110 hc5 hv5 ?_
  refine sw_cS (M := m_X9_nextTree) dX9_nextTree_46 ls_X9_333 hm6 rfl rfl (Nat.le_of_ble_eq_true rfl) (fun _ _ => rfl) rfl ?_
  show SW sc m_X9_nextTree _ _ _ 49 [some (.ref r0), some (.int s0)] [.int v6, .int s0] g6 P
  exact sw_icmp_lt dX9_nextTree_49 (by decide) (fun q => (kt q)) (fun q => (sw_fg [false, true] rfl (kf q)))
theorem b_X9_nextTree_52 {r0 : Nat} {fs2 : List Value} {a2 : Nat} {vs5 : List Value} {x5 : Int32} {vs8 : List Value} (hc2 : (h)[r0]? = some (9, fs2)) (hv2 : fs2[9]? = some (.ref a2)) (hc5 : (h)[a2]? = some (100, vs5)) (ho5 : ¬ (8 : Int32) < 0) (hi5 : vs5[(8 : Int32).toNatClampNeg]? = some (.int x5)) (hc8 : (h)[a2]? = some (100, vs8)) (ho8 : ¬ (8 : Int32) < 0) (hl8 : (8 : Int32).toNatClampNeg < vs8.length) (hP : P (.inl (some (.int (-1)))) ((h).set a2 (100, vs8.set (8 : Int32).toNatClampNeg (.int (x5 + 1))))) : SW sc m_X9_nextTree d rc rs 52 [some (.ref r0), none] [] h P := by
  refine sw_aload_n dX9_nextTree_52 rfl ?_
  refine sw_getf dX9_nextTree_53 lf_X9_68 hc2 hv2 ?_
  refine sw_bipush (v := 8) dX9_nextTree_56 (by decide) ?_
  refine sw_dup2 dX9_nextTree_58 (fun _ _ => rfl) (fun _ _ => rfl) ?_
  refine sw_iald dX9_nextTree_59 hc5 ho5 hi5 ?_
  refine sw_iconst (v := 1) dX9_nextTree_60 (by decide) ?_
  refine sw_iadd dX9_nextTree_61 ?_
  refine sw_iast dX9_nextTree_62 hc8 ho8 hl8 ?_
  refine sw_iconst (v := (-1)) dX9_nextTree_63 (by decide) ?_
  exact sw_ret (v := (some (.int (-1)))) dX9_nextTree_64 rt_i hP
theorem b_X9_nextTree_65 {r0 : Nat} {l1 : Int32} {v3 : Int32} {g3 : ab_H} {fs3 : List Value} (hr3 : (h)[r0]? = some (9, fs3)) (hm3 : MSE m_X9_becomeTree d [.ref r0, .int l1] h (some (.int v3)) g3) (hP : P (.inl (some (.int l1))) g3) : SW sc m_X9_nextTree (d + 1) rc rs 65 [some (.ref r0), some (.int l1)] [] h P := by
  refine sw_aload_n dX9_nextTree_65 rfl ?_
  refine sw_iload_n dX9_nextTree_66 rfl ?_
  refine sw_cV (M := m_X9_nextTree) dX9_nextTree_67 lv_X9_338 hm3 hr3 rfl (by decide) rfl rfl rfl (Nat.le_of_ble_eq_true rfl) (fun _ _ => rfl) rfl ?_
  show SW sc m_X9_nextTree _ _ _ 70 [some (.ref r0), some (.int l1)] [.int v3] g3 P
  refine sw_pop dX9_nextTree_70 (fun _ _ => rfl) ?_
  refine sw_iload_n dX9_nextTree_71 rfl ?_
  exact sw_ret (v := (some (.int l1))) dX9_nextTree_72 rt_i hP
theorem b_X9_keep_0 {r0 : Nat} {l1 : Int32} {g2 : ab_H} {fs4 : List Value} {a4 : Nat} {v6 : Int32} {g6 : ab_H} {fs6 : List Value} {fs9 : List Value} {a9 : Nat} {fs12 : List Value} {a12 : Nat} {g13 : ab_H} {fs13 : List Value} (hm2 : MSE m_X9_needSnapshot d [.int l1] h none g2) (hc4 : (g2)[r0]? = some (9, fs4)) (hv4 : fs4[8]? = some (.ref a4)) (hr6 : (g2)[a4]? = some (5, fs6)) (hm6 : MSE m_X5_hasSnapshot d [.ref a4, .int l1] g2 (some (.int v6)) g6) (hc9 : (g6)[r0]? = some (9, fs9)) (hv9 : fs9[8]? = some (.ref a9)) (hc12 : (g6)[r0]? = some (9, fs12)) (hv12 : fs12[2]? = some (.ref a12)) (hr13 : (g6)[a9]? = some (5, fs13)) (hm13 : MSE m_X5_keepSnapshot d [.ref a9, .int l1, .ref a12] g6 none g13) (hz15 : narrow .boolean (.int v6) = .int v6) (hP : P (.inl (some (.int v6))) g13) : SW sc m_X9_keep (d + 1) rc rs 0 [some (.ref r0), some (.int l1), none] [] h P := by
  refine sw_iload_n dX9_keep_0 rfl ?_
  refine sw_cS (M := m_X9_keep) dX9_keep_1 ls_X9_341 hm2 rfl rfl (Nat.le_of_ble_eq_true rfl) (fun _ _ => rfl) rfl ?_
  show SW sc m_X9_keep _ _ _ 4 [some (.ref r0), some (.int l1), none] [] g2 P
  refine sw_aload_n dX9_keep_4 rfl ?_
  refine sw_getf dX9_keep_5 lf_X9_64 hc4 hv4 ?_
  refine sw_iload_n dX9_keep_8 rfl ?_
  refine sw_cV (M := m_X9_keep) dX9_keep_9 lv_X9_344 hm6 hr6 rfl (by decide) rfl rfl rfl (Nat.le_of_ble_eq_true rfl) (fun _ _ => rfl) rfl ?_
  show SW sc m_X9_keep _ _ _ 12 [some (.ref r0), some (.int l1), none] [.int v6] g6 P
  refine sw_istore_n dX9_keep_12 (by decide) rfl ?_
  show SW sc m_X9_keep _ _ _ 13 [some (.ref r0), some (.int l1), some (.int v6)] [] g6 P
  refine sw_aload_n dX9_keep_13 rfl ?_
  refine sw_getf dX9_keep_14 lf_X9_64 hc9 hv9 ?_
  refine sw_iload_n dX9_keep_17 rfl ?_
  refine sw_aload_n dX9_keep_18 rfl ?_
  refine sw_getf dX9_keep_19 lf_X9_26 hc12 hv12 ?_
  refine sw_cV (M := m_X9_keep) dX9_keep_22 lv_X9_347 hm13 hr13 rfl (by decide) rfl rfl rfl (Nat.le_of_ble_eq_true rfl) (fun _ _ => rfl) rfl ?_
  show SW sc m_X9_keep _ _ _ 25 [some (.ref r0), some (.int l1), some (.int v6)] [] g13 P
  refine sw_iload_n dX9_keep_25 rfl ?_
  exact sw_ret (v := (some (.int v6))) dX9_keep_26 (rt_n hz15) hP
theorem bx_X9_keep_0_1 {r0 : Nat} {l1 : Int32} {E : Nat} {g2 : ab_H} (hm2 : MSX m_X9_needSnapshot d [.int l1] h E g2) (hx : ST sc m_X9_keep (d + 1) rc rs 1 [some (.ref r0), some (.int l1), none] g2 E P) : SW sc m_X9_keep (d + 1) (rc + 1) (rs + 6) 0 [some (.ref r0), some (.int l1), none] [] h P := by
  refine sw_iload_n dX9_keep_0 rfl ?_
  exact sw_xS (M := m_X9_keep) dX9_keep_1 ls_X9_341 hm2 rfl rfl (Nat.le_of_ble_eq_true rfl) (fun _ _ => rfl) rfl hx
theorem b_X9_restore_0 {r0 : Nat} {l1 : Int32} {g2 : ab_H} {fs4 : List Value} {a4 : Nat} {v6 : Int32} {g6 : ab_H} {fs6 : List Value} (hm2 : MSE m_X9_needSnapshot d [.int l1] h none g2) (hc4 : (g2)[r0]? = some (9, fs4)) (hv4 : fs4[8]? = some (.ref a4)) (hr6 : (g2)[a4]? = some (5, fs6)) (hm6 : MSE m_X5_hasSnapshot d [.ref a4, .int l1] g2 (some (.int v6)) g6) (kt : ¬ v6 = 0 → SW sc m_X9_restore (d + 1) rc rs 28 [some (.ref r0), some (.int l1)] [] g6 P) (kf : v6 = 0 → SW sc m_X9_restore (d + 1) rc rs 15 [some (.ref r0), none] [] g6 P) : SW sc m_X9_restore (d + 1) rc rs 0 [some (.ref r0), some (.int l1)] [] h P := by
  refine sw_iload_n dX9_restore_0 rfl ?_
  refine sw_cS (M := m_X9_restore) dX9_restore_1 ls_X9_341 hm2 rfl rfl (Nat.le_of_ble_eq_true rfl) (fun _ _ => rfl) rfl ?_
  show SW sc m_X9_restore _ _ _ 4 [some (.ref r0), some (.int l1)] [] g2 P
  refine sw_aload_n dX9_restore_4 rfl ?_
  refine sw_getf dX9_restore_5 lf_X9_64 hc4 hv4 ?_
  refine sw_iload_n dX9_restore_8 rfl ?_
  refine sw_cV (M := m_X9_restore) dX9_restore_9 lv_X9_344 hm6 hr6 rfl (by decide) rfl rfl rfl (Nat.le_of_ble_eq_true rfl) (fun _ _ => rfl) rfl ?_
  show SW sc m_X9_restore _ _ _ 12 [some (.ref r0), some (.int l1)] [.int v6] g6 P
  exact sw_if_ne dX9_restore_12 (by decide) (fun q => (kt q)) (fun q => (sw_fg [false, true] rfl (kf q)))
theorem bx_X9_restore_0_1 {r0 : Nat} {l1 : Int32} {E : Nat} {g2 : ab_H} (hm2 : MSX m_X9_needSnapshot d [.int l1] h E g2) (hx : ST sc m_X9_restore (d + 1) rc rs 1 [some (.ref r0), some (.int l1)] g2 E P) : SW sc m_X9_restore (d + 1) (rc + 1) (rs + 6) 0 [some (.ref r0), some (.int l1)] [] h P := by
  refine sw_iload_n dX9_restore_0 rfl ?_
  exact sw_xS (M := m_X9_restore) dX9_restore_1 ls_X9_341 hm2 rfl rfl (Nat.le_of_ble_eq_true rfl) (fun _ _ => rfl) rfl hx
theorem b_X9_restore_15 {r0 : Nat} {fs2 : List Value} {a2 : Nat} {vs5 : List Value} {x5 : Int32} {vs8 : List Value} (hc2 : (h)[r0]? = some (9, fs2)) (hv2 : fs2[9]? = some (.ref a2)) (hc5 : (h)[a2]? = some (100, vs5)) (ho5 : ¬ (9 : Int32) < 0) (hi5 : vs5[(9 : Int32).toNatClampNeg]? = some (.int x5)) (hc8 : (h)[a2]? = some (100, vs8)) (ho8 : ¬ (9 : Int32) < 0) (hl8 : (9 : Int32).toNatClampNeg < vs8.length) (hP : P (.inl (some (.int 0))) ((h).set a2 (100, vs8.set (9 : Int32).toNatClampNeg (.int (x5 + 1))))) : SW sc m_X9_restore d rc rs 15 [some (.ref r0), none] [] h P := by
  refine sw_aload_n dX9_restore_15 rfl ?_
  refine sw_getf dX9_restore_16 lf_X9_68 hc2 hv2 ?_
  refine sw_bipush (v := 9) dX9_restore_19 (by decide) ?_
  refine sw_dup2 dX9_restore_21 (fun _ _ => rfl) (fun _ _ => rfl) ?_
  refine sw_iald dX9_restore_22 hc5 ho5 hi5 ?_
  refine sw_iconst (v := 1) dX9_restore_23 (by decide) ?_
  refine sw_iadd dX9_restore_24 ?_
  refine sw_iast dX9_restore_25 hc8 ho8 hl8 ?_
  refine sw_iconst (v := 0) dX9_restore_26 (by decide) ?_
  exact sw_ret (v := (some (.int 0))) dX9_restore_27 (rt_n (by decide)) hP
theorem b_X9_restore_28 {r0 : Nat} {l1 : Int32} {fs2 : List Value} {a2 : Nat} {fs4 : List Value} {a4 : Nat} {v5 : Nat} {g5 : ab_H} {fs5 : List Value} {fs8 : List Value} {a8 : Nat} {fs11 : List Value} {a11 : Nat} {g12 : ab_H} {fs12 : List Value} (hc2 : (h)[r0]? = some (9, fs2)) (hv2 : fs2[8]? = some (.ref a2)) (hc4 : (h)[r0]? = some (9, fs4)) (hv4 : fs4[2]? = some (.ref a4)) (hr5 : (h)[a2]? = some (5, fs5)) (hm5 : MSE m_X5_record d [.ref a2, .ref a4] h (some (.ref v5)) g5) (hc8 : (g5)[r0]? = some (9, fs8)) (hv8 : fs8[8]? = some (.ref a8)) (hc11 : (g5)[r0]? = some (9, fs11)) (hv11 : fs11[2]? = some (.ref a11)) (hr12 : (g5)[a8]? = some (5, fs12)) (hm12 : MSE m_X5_bringSnapshot d [.ref a8, .int l1, .ref a11] g5 none g12) (hP : P (.inl (some (.int 1))) g12) : SW sc m_X9_restore (d + 1) rc rs 28 [some (.ref r0), some (.int l1)] [] h P := by
  refine sw_aload_n dX9_restore_28 rfl ?_
  refine sw_getf dX9_restore_29 lf_X9_64 hc2 hv2 ?_
  refine sw_aload_n dX9_restore_32 rfl ?_
  refine sw_getf dX9_restore_33 lf_X9_26 hc4 hv4 ?_
  refine sw_cV (M := m_X9_restore) dX9_restore_36 lv_X9_302 hm5 hr5 rfl (by decide) rfl rfl rfl (Nat.le_of_ble_eq_true rfl) (fun _ _ => rfl) rfl ?_
  show SW sc m_X9_restore _ _ _ 39 [some (.ref r0), some (.int l1)] [.ref v5] g5 P
  refine sw_pop dX9_restore_39 (fun _ _ => rfl) ?_
  refine sw_aload_n dX9_restore_40 rfl ?_
  refine sw_getf dX9_restore_41 lf_X9_64 hc8 hv8 ?_
  refine sw_iload_n dX9_restore_44 rfl ?_
  refine sw_aload_n dX9_restore_45 rfl ?_
  refine sw_getf dX9_restore_46 lf_X9_26 hc11 hv11 ?_
  refine sw_cV (M := m_X9_restore) dX9_restore_49 lv_X9_351 hm12 hr12 rfl (by decide) rfl rfl rfl (Nat.le_of_ble_eq_true rfl) (fun _ _ => rfl) rfl ?_
  show SW sc m_X9_restore _ _ _ 52 [some (.ref r0), some (.int l1)] [] g12 P
  refine sw_iconst (v := 1) dX9_restore_52 (by decide) ?_
  exact sw_ret (v := (some (.int 1))) dX9_restore_53 (rt_n (by decide)) hP
theorem b_X9_undo_0 {r0 : Nat} {fs2 : List Value} {a2 : Nat} {fs4 : List Value} {a4 : Nat} {v5 : Int32} {g5 : ab_H} {fs5 : List Value} (hc2 : (h)[r0]? = some (9, fs2)) (hv2 : fs2[8]? = some (.ref a2)) (hc4 : (h)[r0]? = some (9, fs4)) (hv4 : fs4[2]? = some (.ref a4)) (hr5 : (h)[a2]? = some (5, fs5)) (hm5 : MSE m_X5_takeBack d [.ref a2, .ref a4] h (some (.int v5)) g5) (kt : v5 = 0 → SW sc m_X9_undo (d + 1) rc rs 24 [none] [] g5 P) (kf : ¬ (v5 = 0) → SW sc m_X9_undo (d + 1) rc rs 14 [some (.ref r0)] [] g5 P) : SW sc m_X9_undo (d + 1) rc rs 0 [some (.ref r0)] [] h P := by
  refine sw_aload_n dX9_undo_0 rfl ?_
  refine sw_getf dX9_undo_1 lf_X9_64 hc2 hv2 ?_
  refine sw_aload_n dX9_undo_4 rfl ?_
  refine sw_getf dX9_undo_5 lf_X9_26 hc4 hv4 ?_
  refine sw_cV (M := m_X9_undo) dX9_undo_8 lv_X9_354 hm5 hr5 rfl (by decide) rfl rfl rfl (Nat.le_of_ble_eq_true rfl) (fun _ _ => rfl) rfl ?_
  show SW sc m_X9_undo _ _ _ 11 [some (.ref r0)] [.int v5] g5 P
  exact sw_if_eq dX9_undo_11 (by decide) (fun q => (sw_fg [true] rfl (kt q))) (fun q => (kf q))
theorem b_X9_undo_14 {r0 : Nat} {fs2 : List Value} {a2 : Nat} {fs3 : List Value} {x3 : Int32} (hc2 : (h)[r0]? = some (9, fs2)) (hv2 : fs2[8]? = some (.ref a2)) (hc3 : (h)[a2]? = some (5, fs3)) (hv3 : fs3[3]? = some (.int x3)) (k : SW sc m_X9_undo d rc rs 25 [none] [.int x3] h P) : SW sc m_X9_undo d rc rs 14 [some (.ref r0)] [] h P := by
  refine sw_aload_n dX9_undo_14 rfl ?_
  refine sw_getf dX9_undo_15 lf_X9_64 hc2 hv2 ?_
  refine sw_getf dX9_undo_18 lf_X9_143 hc3 hv3 ?_
  exact sw_goto dX9_undo_21 (by decide) (sw_fg [true] rfl (k))
theorem b_X9_undo_24  (k : SW sc m_X9_undo d rc rs 25 [none] [.int (-1)] h P) : SW sc m_X9_undo d rc rs 24 [none] [] h P := by
  refine sw_iconst (v := (-1)) dX9_undo_24 (by decide) ?_
  exact (k)
theorem b_X9_undo_25 {s0 : Int32} (hP : P (.inl (some (.int s0))) h) : SW sc m_X9_undo d rc rs 25 [none] [.int s0] h P := by
  exact sw_ret (v := (some (.int s0))) dX9_undo_25 rt_i hP
theorem b_X9_account_0 {r0 : Nat} {l1 : Int32} (kt : l1 < 0 → SW sc m_X9_account d rc rs 10 [none, none] [] h P) (kf : ¬ (l1 < 0) → SW sc m_X9_account d rc rs 4 [some (.ref r0), some (.int l1)] [] h P) : SW sc m_X9_account d rc rs 0 [some (.ref r0), some (.int l1)] [] h P := by
  refine sw_iload_n dX9_account_0 rfl ?_
  exact sw_if_lt dX9_account_1 (by decide) (fun q => (sw_fg [true, true] rfl (kt q))) (fun q => (kf q))
theorem b_X9_account_4 {r0 : Nat} {l1 : Int32} (kt : l1 < 10 → SW sc m_X9_account d rc rs 21 [some (.ref r0), some (.int l1)] [] h P) (kf : ¬ (l1 < 10) → SW sc m_X9_account d rc rs 10 [none, none] [] h P) : SW sc m_X9_account d rc rs 4 [some (.ref r0), some (.int l1)] [] h P := by
  refine sw_iload_n dX9_account_4 rfl ?_
  refine sw_bipush (v := 10) dX9_account_5 (by decide) ?_
  exact sw_icmp_lt dX9_account_7 (by decide) (fun q => (kt q)) (fun q => (sw_fg [true, true] rfl (kf q)))
theorem b_X9_account_10  (hP : P (.inr 2) h) : SW sc m_X9_account d (rc + 1) (rs + 6) 10 [none, none] [] h P := by
  exact sw_throwW (M := m_X9_account) dX9_account_10 dX9_account_13 dX9_account_14 dX9_account_17 dX9_account_20 lt_X9_2 sr_X9_358 (Nat.le_of_ble_eq_true rfl) (fun _ _ => rfl) (st_out rfl hP)
theorem b_X9_account_21 {r0 : Nat} {l1 : Int32} {fs2 : List Value} {a2 : Nat} {vs4 : List Value} {x4 : Int32} (hc2 : (h)[r0]? = some (9, fs2)) (hv2 : fs2[9]? = some (.ref a2)) (hc4 : (h)[a2]? = some (100, vs4)) (ho4 : ¬ l1 < 0) (hi4 : vs4[l1.toNatClampNeg]? = some (.int x4)) (hP : P (.inl (some (.int x4))) h) : SW sc m_X9_account d rc rs 21 [some (.ref r0), some (.int l1)] [] h P := by
  refine sw_aload_n dX9_account_21 rfl ?_
  refine sw_getf dX9_account_22 lf_X9_68 hc2 hv2 ?_
  refine sw_iload_n dX9_account_25 rfl ?_
  refine sw_iald dX9_account_26 hc4 ho4 hi4 ?_
  exact sw_ret (v := (some (.int x4))) dX9_account_27 rt_i hP
theorem b_X9_needVertex_0 {r0 : Nat} {l1 : Int32} {fs2 : List Value} {a2 : Nat} {v4 : Int32} {g4 : ab_H} {fs4 : List Value} (hc2 : (h)[r0]? = some (9, fs2)) (hv2 : fs2[2]? = some (.ref a2)) (hr4 : (h)[a2]? = some (3, fs4)) (hm4 : MSE m_X3_isVertex d [.ref a2, .int l1] h (some (.int v4)) g4) (kt : ¬ v4 = 0 → SW sc m_X9_needVertex (d + 1) rc rs 22 [none, none] [] g4 P) (kf : v4 = 0 → SW sc m_X9_needVertex (d + 1) rc rs 11 [none, none] [] g4 P) : SW sc m_X9_needVertex (d + 1) rc rs 0 [some (.ref r0), some (.int l1)] [] h P := by
  refine sw_aload_n dX9_needVertex_0 rfl ?_
  refine sw_getf dX9_needVertex_1 lf_X9_26 hc2 hv2 ?_
  refine sw_iload_n dX9_needVertex_4 rfl ?_
  refine sw_cV (M := m_X9_needVertex) dX9_needVertex_5 lv_X9_360 hm4 hr4 rfl (by decide) rfl rfl rfl (Nat.le_of_ble_eq_true rfl) (fun _ _ => rfl) rfl ?_
  show SW sc m_X9_needVertex _ _ _ 8 [some (.ref r0), some (.int l1)] [.int v4] g4 P
  exact sw_if_ne dX9_needVertex_8 (by decide) (fun q => (sw_fg [true, true] rfl (kt q))) (fun q => (sw_fg [true, true] rfl (kf q)))
theorem b_X9_needVertex_11  (hP : P (.inr 1) h) : SW sc m_X9_needVertex d (rc + 1) (rs + 6) 11 [none, none] [] h P := by
  exact sw_throwW (M := m_X9_needVertex) dX9_needVertex_11 dX9_needVertex_14 dX9_needVertex_15 dX9_needVertex_18 dX9_needVertex_21 lt_X9_1 sr_X9_365 (Nat.le_of_ble_eq_true rfl) (fun _ _ => rfl) (st_out rfl hP)
theorem b_X9_needVertex_22  (hP : P (.inl none) h) : SW sc m_X9_needVertex d rc rs 22 [none, none] [] h P := by
  exact sw_ret (v := none) dX9_needVertex_22 rt_v hP
theorem b_X9_neededComponent_0 {r0 : Nat} {l1 : Int32} {fs2 : List Value} {a2 : Nat} {v4 : Int32} {g4 : ab_H} {fs4 : List Value} (hc2 : (h)[r0]? = some (9, fs2)) (hv2 : fs2[2]? = some (.ref a2)) (hr4 : (h)[a2]? = some (3, fs4)) (hm4 : MSE m_X3_componentSet d [.ref a2, .int l1] h (some (.int v4)) g4) (kt : ¬ v4 = 0 → SW sc m_X9_neededComponent (d + 1) rc rs 24 [none, none, some (.int v4)] [] g4 P) (kf : v4 = 0 → SW sc m_X9_neededComponent (d + 1) rc rs 13 [none, none, none] [] g4 P) : SW sc m_X9_neededComponent (d + 1) rc rs 0 [some (.ref r0), some (.int l1), none] [] h P := by
  refine sw_aload_n dX9_neededComponent_0 rfl ?_
  refine sw_getf dX9_neededComponent_1 lf_X9_26 hc2 hv2 ?_
  refine sw_iload_n dX9_neededComponent_4 rfl ?_
  refine sw_cV (M := m_X9_neededComponent) dX9_neededComponent_5 lv_X9_368 hm4 hr4 rfl (by decide) rfl rfl rfl (Nat.le_of_ble_eq_true rfl) (fun _ _ => rfl) rfl ?_
  show SW sc m_X9_neededComponent _ _ _ 8 [some (.ref r0), some (.int l1), none] [.int v4] g4 P
  refine sw_istore_n dX9_neededComponent_8 (by decide) rfl ?_
  show SW sc m_X9_neededComponent _ _ _ 9 [some (.ref r0), some (.int l1), some (.int v4)] [] g4 P
  refine sw_iload_n dX9_neededComponent_9 rfl ?_
  exact sw_if_ne dX9_neededComponent_10 (by decide) (fun q => (sw_fg [true, true, false] rfl (kt q))) (fun q => (sw_fg [true, true, true] rfl (kf q)))
theorem b_X9_neededComponent_13  (hP : P (.inr 1) h) : SW sc m_X9_neededComponent d (rc + 1) (rs + 6) 13 [none, none, none] [] h P := by
  exact sw_throwW (M := m_X9_neededComponent) dX9_neededComponent_13 dX9_neededComponent_16 dX9_neededComponent_17 dX9_neededComponent_20 dX9_neededComponent_23 lt_X9_1 sr_X9_371 (Nat.le_of_ble_eq_true rfl) (fun _ _ => rfl) (st_out rfl hP)
theorem b_X9_neededComponent_24 {l2 : Int32} (hP : P (.inl (some (.int l2))) h) : SW sc m_X9_neededComponent d rc rs 24 [none, none, some (.int l2)] [] h P := by
  refine sw_iload_n dX9_neededComponent_24 rfl ?_
  exact sw_ret (v := (some (.int l2))) dX9_neededComponent_25 rt_i hP
theorem b_X9_needTree_0 {r0 : Nat} {fs2 : List Value} {a2 : Nat} {v3 : Int32} {g3 : ab_H} {fs3 : List Value} (hc2 : (h)[r0]? = some (9, fs2)) (hv2 : fs2[2]? = some (.ref a2)) (hr3 : (h)[a2]? = some (3, fs3)) (hm3 : MSE m_X3_components d [.ref a2] h (some (.int v3)) g3) (kt : v3 = 1 → SW sc m_X9_needTree (d + 1) rc rs 22 [none] [] g3 P) (kf : ¬ (v3 = 1) → SW sc m_X9_needTree (d + 1) rc rs 11 [none] [] g3 P) : SW sc m_X9_needTree (d + 1) rc rs 0 [some (.ref r0)] [] h P := by
  refine sw_aload_n dX9_needTree_0 rfl ?_
  refine sw_getf dX9_needTree_1 lf_X9_26 hc2 hv2 ?_
  refine sw_cV (M := m_X9_needTree) dX9_needTree_4 lv_X9_113 hm3 hr3 rfl (by decide) rfl rfl rfl (Nat.le_of_ble_eq_true rfl) (fun _ _ => rfl) rfl ?_
  show SW sc m_X9_needTree _ _ _ 7 [some (.ref r0)] [.int v3] g3 P
  refine sw_iconst (v := 1) dX9_needTree_7 (by decide) ?_
  exact sw_icmp_eq dX9_needTree_8 (by decide) (fun q => (sw_fg [true] rfl (kt q))) (fun q => (sw_fg [true] rfl (kf q)))
theorem b_X9_needTree_11  (hP : P (.inr 3) h) : SW sc m_X9_needTree d (rc + 1) (rs + 6) 11 [none] [] h P := by
  exact sw_throwW (M := m_X9_needTree) dX9_needTree_11 dX9_needTree_14 dX9_needTree_15 dX9_needTree_18 dX9_needTree_21 lt_X9_3 sr_X9_375 (Nat.le_of_ble_eq_true rfl) (fun _ _ => rfl) (st_out rfl hP)
theorem b_X9_needTree_22  (hP : P (.inl none) h) : SW sc m_X9_needTree d rc rs 22 [none] [] h P := by
  exact sw_ret (v := none) dX9_needTree_22 rt_v hP
theorem b_X9_needSnapshot_0 {l0 : Int32} (kt : l0 < 0 → SW sc m_X9_needSnapshot d rc rs 9 [none] [] h P) (kf : ¬ (l0 < 0) → SW sc m_X9_needSnapshot d rc rs 4 [some (.int l0)] [] h P) : SW sc m_X9_needSnapshot d rc rs 0 [some (.int l0)] [] h P := by
  refine sw_iload_n dX9_needSnapshot_0 rfl ?_
  exact sw_if_lt dX9_needSnapshot_1 (by decide) (fun q => (sw_fg [true] rfl (kt q))) (fun q => (kf q))
theorem b_X9_needSnapshot_4 {l0 : Int32} (kt : l0 < 3 → SW sc m_X9_needSnapshot d rc rs 20 [none] [] h P) (kf : ¬ (l0 < 3) → SW sc m_X9_needSnapshot d rc rs 9 [none] [] h P) : SW sc m_X9_needSnapshot d rc rs 4 [some (.int l0)] [] h P := by
  refine sw_iload_n dX9_needSnapshot_4 rfl ?_
  refine sw_iconst (v := 3) dX9_needSnapshot_5 (by decide) ?_
  exact sw_icmp_lt dX9_needSnapshot_6 (by decide) (fun q => (sw_fg [true] rfl (kt q))) (fun q => (sw_fg [true] rfl (kf q)))
theorem b_X9_needSnapshot_9  (hP : P (.inr 2) h) : SW sc m_X9_needSnapshot d (rc + 1) (rs + 6) 9 [none] [] h P := by
  exact sw_throwW (M := m_X9_needSnapshot) dX9_needSnapshot_9 dX9_needSnapshot_12 dX9_needSnapshot_13 dX9_needSnapshot_16 dX9_needSnapshot_19 lt_X9_2 sr_X9_378 (Nat.le_of_ble_eq_true rfl) (fun _ _ => rfl) (st_out rfl hP)
theorem b_X9_needSnapshot_20  (hP : P (.inl none) h) : SW sc m_X9_needSnapshot d rc rs 20 [none] [] h P := by
  exact sw_ret (v := none) dX9_needSnapshot_20 rt_v hP
theorem b_X9_reasonAgainstLink_0 {r0 : Nat} {l1 : Int32} {l2 : Int32} (kt : ¬ l1 = l2 → SW sc m_X9_reasonAgainstLink d rc rs 7 [some (.ref r0), some (.int l1), some (.int l2)] [] h P) (kf : l1 = l2 → SW sc m_X9_reasonAgainstLink d rc rs 5 [none, none, none] [] h P) : SW sc m_X9_reasonAgainstLink d rc rs 0 [some (.ref r0), some (.int l1), some (.int l2)] [] h P := by
  refine sw_iload_n dX9_reasonAgainstLink_0 rfl ?_
  refine sw_iload_n dX9_reasonAgainstLink_1 rfl ?_
  exact sw_icmp_ne dX9_reasonAgainstLink_2 (by decide) (fun q => (kt q)) (fun q => (sw_fg [true, true, true] rfl (kf q)))
theorem b_X9_reasonAgainstLink_5  (hP : P (.inl (some (.int 1))) h) : SW sc m_X9_reasonAgainstLink d rc rs 5 [none, none, none] [] h P := by
  refine sw_iconst (v := 1) dX9_reasonAgainstLink_5 (by decide) ?_
  exact sw_ret (v := (some (.int 1))) dX9_reasonAgainstLink_6 rt_i hP
theorem b_X9_reasonAgainstLink_7 {r0 : Nat} {l1 : Int32} {l2 : Int32} {fs2 : List Value} {a2 : Nat} {v5 : Int32} {g5 : ab_H} {fs5 : List Value} (hc2 : (h)[r0]? = some (9, fs2)) (hv2 : fs2[2]? = some (.ref a2)) (hr5 : (h)[a2]? = some (3, fs5)) (hm5 : MSE m_X3_hasEdge d [.ref a2, .int l1, .int l2] h (some (.int v5)) g5) (kt : v5 = 0 → SW sc m_X9_reasonAgainstLink (d + 1) rc rs 21 [some (.ref r0), some (.int l1), some (.int l2)] [] g5 P) (kf : ¬ (v5 = 0) → SW sc m_X9_reasonAgainstLink (d + 1) rc rs 19 [none, none, none] [] g5 P) : SW sc m_X9_reasonAgainstLink (d + 1) rc rs 7 [some (.ref r0), some (.int l1), some (.int l2)] [] h P := by
  refine sw_aload_n dX9_reasonAgainstLink_7 rfl ?_
  refine sw_getf dX9_reasonAgainstLink_8 lf_X9_26 hc2 hv2 ?_
  refine sw_iload_n dX9_reasonAgainstLink_11 rfl ?_
  refine sw_iload_n dX9_reasonAgainstLink_12 rfl ?_
  refine sw_cV (M := m_X9_reasonAgainstLink) dX9_reasonAgainstLink_13 lv_X9_263 hm5 hr5 rfl (by decide) rfl rfl rfl (Nat.le_of_ble_eq_true rfl) (fun _ _ => rfl) rfl ?_
  show SW sc m_X9_reasonAgainstLink _ _ _ 16 [some (.ref r0), some (.int l1), some (.int l2)] [.int v5] g5 P
  exact sw_if_eq dX9_reasonAgainstLink_16 (by decide) (fun q => (kt q)) (fun q => (sw_fg [true, true, true] rfl (kf q)))
theorem b_X9_reasonAgainstLink_19  (hP : P (.inl (some (.int 2))) h) : SW sc m_X9_reasonAgainstLink d rc rs 19 [none, none, none] [] h P := by
  refine sw_iconst (v := 2) dX9_reasonAgainstLink_19 (by decide) ?_
  exact sw_ret (v := (some (.int 2))) dX9_reasonAgainstLink_20 rt_i hP
theorem b_X9_reasonAgainstLink_21 {r0 : Nat} {l1 : Int32} {l2 : Int32} {fs2 : List Value} {a2 : Nat} {v5 : Int32} {g5 : ab_H} {fs5 : List Value} (hc2 : (h)[r0]? = some (9, fs2)) (hv2 : fs2[2]? = some (.ref a2)) (hr5 : (h)[a2]? = some (3, fs5)) (hm5 : MSE m_X3_steps d [.ref a2, .int l1, .int l2] h (some (.int v5)) g5) (kt : ¬ v5 = (-1) → SW sc m_X9_reasonAgainstLink (d + 1) rc rs 38 [none, none, none] [] g5 P) (kf : v5 = (-1) → SW sc m_X9_reasonAgainstLink (d + 1) rc rs 34 [none, none, none] [] g5 P) : SW sc m_X9_reasonAgainstLink (d + 1) rc rs 21 [some (.ref r0), some (.int l1), some (.int l2)] [] h P := by
  refine sw_aload_n dX9_reasonAgainstLink_21 rfl ?_
  refine sw_getf dX9_reasonAgainstLink_22 lf_X9_26 hc2 hv2 ?_
  refine sw_iload_n dX9_reasonAgainstLink_25 rfl ?_
  refine sw_iload_n dX9_reasonAgainstLink_26 rfl ?_
  refine sw_cV (M := m_X9_reasonAgainstLink) dX9_reasonAgainstLink_27 lv_X9_196 hm5 hr5 rfl (by decide) rfl rfl rfl (Nat.le_of_ble_eq_true rfl) (fun _ _ => rfl) rfl ?_
  show SW sc m_X9_reasonAgainstLink _ _ _ 30 [some (.ref r0), some (.int l1), some (.int l2)] [.int v5] g5 P
  refine sw_iconst (v := (-1)) dX9_reasonAgainstLink_30 (by decide) ?_
  exact sw_icmp_ne dX9_reasonAgainstLink_31 (by decide) (fun q => (sw_fg [true, true, true] rfl (kt q))) (fun q => (sw_fg [true, true, true] rfl (kf q)))
theorem b_X9_reasonAgainstLink_34  (k : SW sc m_X9_reasonAgainstLink d rc rs 39 [none, none, none] [.int 0] h P) : SW sc m_X9_reasonAgainstLink d rc rs 34 [none, none, none] [] h P := by
  refine sw_iconst (v := 0) dX9_reasonAgainstLink_34 (by decide) ?_
  exact sw_goto dX9_reasonAgainstLink_35 (by decide) (k)
theorem b_X9_reasonAgainstLink_38  (k : SW sc m_X9_reasonAgainstLink d rc rs 39 [none, none, none] [.int 3] h P) : SW sc m_X9_reasonAgainstLink d rc rs 38 [none, none, none] [] h P := by
  refine sw_iconst (v := 3) dX9_reasonAgainstLink_38 (by decide) ?_
  exact (k)
theorem b_X9_reasonAgainstLink_39 {s0 : Int32} (hP : P (.inl (some (.int s0))) h) : SW sc m_X9_reasonAgainstLink d rc rs 39 [none, none, none] [.int s0] h P := by
  exact sw_ret (v := (some (.int s0))) dX9_reasonAgainstLink_39 rt_i hP
theorem b_X9_reasonAgainstRegraft_0 {r0 : Nat} {l1 : Int32} {l2 : Int32} {l3 : Int32} {fs2 : List Value} {a2 : Nat} {v5 : Int32} {g5 : ab_H} {fs5 : List Value} (hc2 : (h)[r0]? = some (9, fs2)) (hv2 : fs2[2]? = some (.ref a2)) (hr5 : (h)[a2]? = some (3, fs5)) (hm5 : MSE m_X3_hasEdge d [.ref a2, .int l1, .int l2] h (some (.int v5)) g5) (kt : ¬ v5 = 0 → SW sc m_X9_reasonAgainstRegraft (d + 1) rc rs 14 [some (.ref r0), some (.int l1), some (.int l2), some (.int l3)] [] g5 P) (kf : v5 = 0 → SW sc m_X9_reasonAgainstRegraft (d + 1) rc rs 12 [none, none, none, none] [] g5 P) : SW sc m_X9_reasonAgainstRegraft (d + 1) rc rs 0 [some (.ref r0), some (.int l1), some (.int l2), some (.int l3)] [] h P := by
  refine sw_aload_n dX9_reasonAgainstRegraft_0 rfl ?_
  refine sw_getf dX9_reasonAgainstRegraft_1 lf_X9_26 hc2 hv2 ?_
  refine sw_iload_n dX9_reasonAgainstRegraft_4 rfl ?_
  refine sw_iload_n dX9_reasonAgainstRegraft_5 rfl ?_
  refine sw_cV (M := m_X9_reasonAgainstRegraft) dX9_reasonAgainstRegraft_6 lv_X9_263 hm5 hr5 rfl (by decide) rfl rfl rfl (Nat.le_of_ble_eq_true rfl) (fun _ _ => rfl) rfl ?_
  show SW sc m_X9_reasonAgainstRegraft _ _ _ 9 [some (.ref r0), some (.int l1), some (.int l2), some (.int l3)] [.int v5] g5 P
  exact sw_if_ne dX9_reasonAgainstRegraft_9 (by decide) (fun q => (kt q)) (fun q => (sw_fg [true, true, true, true] rfl (kf q)))
theorem b_X9_reasonAgainstRegraft_12  (hP : P (.inl (some (.int 1))) h) : SW sc m_X9_reasonAgainstRegraft d rc rs 12 [none, none, none, none] [] h P := by
  refine sw_iconst (v := 1) dX9_reasonAgainstRegraft_12 (by decide) ?_
  exact sw_ret (v := (some (.int 1))) dX9_reasonAgainstRegraft_13 rt_i hP
theorem b_X9_reasonAgainstRegraft_14 {r0 : Nat} {l1 : Int32} {l2 : Int32} {l3 : Int32} {fs2 : List Value} {a2 : Nat} {fs5 : List Value} {a5 : Nat} {v6 : Int32} {g6 : ab_H} {fs6 : List Value} {v8 : Int32} {g8 : ab_H} {v9 : Int32} {g9 : ab_H} {fs9 : List Value} {v11 : Int32} {g11 : ab_H} (hc2 : (h)[r0]? = some (9, fs2)) (hv2 : fs2[2]? = some (.ref a2)) (hc5 : (h)[r0]? = some (9, fs5)) (hv5 : fs5[2]? = some (.ref a5)) (hr6 : (h)[a5]? = some (3, fs6)) (hm6 : MSE m_X3_all d [.ref a5] h (some (.int v6)) g6) (hm8 : MSE m_X9_without d [.int v6, .int l2] g6 (some (.int v8)) g8) (hr9 : (g8)[a2]? = some (3, fs9)) (hm9 : MSE m_X3_reachable d [.ref a2, .int l1, .int v8] g8 (some (.int v9)) g9) (hm11 : MSE m_X9_holds d [.int v9, .int l3] g9 (some (.int v11)) g11) (kt : v11 = 0 → SW sc m_X9_reasonAgainstRegraft (d + 1) rc rs 44 [none, none, none, none] [] g11 P) (kf : ¬ (v11 = 0) → SW sc m_X9_reasonAgainstRegraft (d + 1) rc rs 40 [none, none, none, none] [] g11 P) : SW sc m_X9_reasonAgainstRegraft (d + 1) rc rs 14 [some (.ref r0), some (.int l1), some (.int l2), some (.int l3)] [] h P := by
  refine sw_aload_n dX9_reasonAgainstRegraft_14 rfl ?_
  refine sw_getf dX9_reasonAgainstRegraft_15 lf_X9_26 hc2 hv2 ?_
  refine sw_iload_n dX9_reasonAgainstRegraft_18 rfl ?_
  refine sw_aload_n dX9_reasonAgainstRegraft_19 rfl ?_
  refine sw_getf dX9_reasonAgainstRegraft_20 lf_X9_26 hc5 hv5 ?_
  refine sw_cV (M := m_X9_reasonAgainstRegraft) dX9_reasonAgainstRegraft_23 lv_X9_116 hm6 hr6 rfl (by decide) rfl rfl rfl (Nat.le_of_ble_eq_true rfl) (fun _ _ => rfl) rfl ?_
  show SW sc m_X9_reasonAgainstRegraft _ _ _ 26 [some (.ref r0), some (.int l1), some (.int l2), some (.int l3)] [.int v6, .int l1, .ref a2] g6 P
  refine sw_iload_n dX9_reasonAgainstRegraft_26 rfl ?_
  refine sw_cS (M := m_X9_reasonAgainstRegraft) dX9_reasonAgainstRegraft_27 ls_X9_380 hm8 rfl rfl (Nat.le_of_ble_eq_true rfl) (fun _ _ => rfl) rfl ?_
  show SW sc m_X9_reasonAgainstRegraft _ _ _ 30 [some (.ref r0), some (.int l1), some (.int l2), some (.int l3)] [.int v8, .int l1, .ref a2] g8 P
  refine sw_cV (M := m_X9_reasonAgainstRegraft) dX9_reasonAgainstRegraft_30 lv_X9_383 hm9 hr9 rfl (by decide) rfl rfl rfl (Nat.le_of_ble_eq_true rfl) (fun _ _ => rfl) rfl ?_
  show SW sc m_X9_reasonAgainstRegraft _ _ _ 33 [some (.ref r0), some (.int l1), some (.int l2), some (.int l3)] [.int v9] g9 P
  refine sw_iload_n dX9_reasonAgainstRegraft_33 rfl ?_
  refine sw_cS (M := m_X9_reasonAgainstRegraft) dX9_reasonAgainstRegraft_34 ls_X9_216 hm11 rfl rfl (Nat.le_of_ble_eq_true rfl) (fun _ _ => rfl) rfl ?_
  show SW sc m_X9_reasonAgainstRegraft _ _ _ 37 [some (.ref r0), some (.int l1), some (.int l2), some (.int l3)] [.int v11] g11 P
  exact sw_if_eq dX9_reasonAgainstRegraft_37 (by decide) (fun q => (sw_fg [true, true, true, true] rfl (kt q))) (fun q => (sw_fg [true, true, true, true] rfl (kf q)))
theorem b_X9_reasonAgainstRegraft_40  (k : SW sc m_X9_reasonAgainstRegraft d rc rs 45 [none, none, none, none] [.int 2] h P) : SW sc m_X9_reasonAgainstRegraft d rc rs 40 [none, none, none, none] [] h P := by
  refine sw_iconst (v := 2) dX9_reasonAgainstRegraft_40 (by decide) ?_
  exact sw_goto dX9_reasonAgainstRegraft_41 (by decide) (k)
theorem b_X9_reasonAgainstRegraft_44  (k : SW sc m_X9_reasonAgainstRegraft d rc rs 45 [none, none, none, none] [.int 0] h P) : SW sc m_X9_reasonAgainstRegraft d rc rs 44 [none, none, none, none] [] h P := by
  refine sw_iconst (v := 0) dX9_reasonAgainstRegraft_44 (by decide) ?_
  exact (k)
theorem b_X9_reasonAgainstRegraft_45 {s0 : Int32} (hP : P (.inl (some (.int s0))) h) : SW sc m_X9_reasonAgainstRegraft d rc rs 45 [none, none, none, none] [.int s0] h P := by
  exact sw_ret (v := (some (.int s0))) dX9_reasonAgainstRegraft_45 rt_i hP
theorem b_X9_becomeTree_0 {r0 : Nat} {l1 : Int32} {fs2 : List Value} {a2 : Nat} {fs4 : List Value} {a4 : Nat} {v5 : Nat} {g5 : ab_H} {fs5 : List Value} {fs8 : List Value} {a8 : Nat} {fs10 : List Value} {a10 : Nat} {fs11 : List Value} {x11 : Int32} {g13 : ab_H} {fs13 : List Value} {fs15 : List Value} {a15 : Nat} {fs17 : List Value} {a17 : Nat} {g18 : ab_H} {fs18 : List Value} {fs20 : List Value} {a20 : Nat} {vs23 : List Value} {x23 : Int32} {vs26 : List Value} {fs28 : List Value} {a28 : Nat} {v30 : Int32} {g30 : ab_H} {fs30 : List Value} (hc2 : (h)[r0]? = some (9, fs2)) (hv2 : fs2[8]? = some (.ref a2)) (hc4 : (h)[r0]? = some (9, fs4)) (hv4 : fs4[2]? = some (.ref a4)) (hr5 : (h)[a2]? = some (5, fs5)) (hm5 : MSE m_X5_record d [.ref a2, .ref a4] h (some (.ref v5)) g5) (hc8 : (g5)[r0]? = some (9, fs8)) (hv8 : fs8[4]? = some (.ref a8)) (hc10 : (g5)[r0]? = some (9, fs10)) (hv10 : fs10[2]? = some (.ref a10)) (hc11 : (g5)[a10]? = some (3, fs11)) (hv11 : fs11[2]? = some (.int x11)) (hr13 : (g5)[a8]? = some (1, fs13)) (hm13 : MSE m_X1_setRank d [.ref a8, .int x11, .int l1] g5 none g13) (hc15 : (g13)[r0]? = some (9, fs15)) (hv15 : fs15[4]? = some (.ref a15)) (hc17 : (g13)[r0]? = some (9, fs17)) (hv17 : fs17[2]? = some (.ref a17)) (hr18 : (g13)[a15]? = some (1, fs18)) (hm18 : MSE m_X1_plant d [.ref a15, .ref a17] g13 none g18) (hc20 : (g18)[r0]? = some (9, fs20)) (hv20 : fs20[9]? = some (.ref a20)) (hc23 : (g18)[a20]? = some (100, vs23)) (ho23 : ¬ (4 : Int32) < 0) (hi23 : vs23[(4 : Int32).toNatClampNeg]? = some (.int x23)) (hc26 : (g18)[a20]? = some (100, vs26)) (ho26 : ¬ (4 : Int32) < 0) (hl26 : (4 : Int32).toNatClampNeg < vs26.length) (hc28 : ((g18).set a20 (100, vs26.set (4 : Int32).toNatClampNeg (.int (x23 + 1))))[r0]? = some (9, fs28)) (hv28 : fs28[2]? = some (.ref a28)) (hr30 : ((g18).set a20 (100, vs26.set (4 : Int32).toNatClampNeg (.int (x23 + 1))))[a28]? = some (3, fs30)) (hm30 : MSE m_X3_edgesNotIn d [.ref a28, .ref v5] ((g18).set a20 (100, vs26.set (4 : Int32).toNatClampNeg (.int (x23 + 1)))) (some (.int v30)) g30) (hP : P (.inl (some (.int v30))) g30) : SW sc m_X9_becomeTree (d + 1) rc rs 0 [some (.ref r0), some (.int l1), none] [] h P := by
  refine sw_aload_n dX9_becomeTree_0 rfl ?_
  refine sw_getf dX9_becomeTree_1 lf_X9_64 hc2 hv2 ?_
  refine sw_aload_n dX9_becomeTree_4 rfl ?_
  refine sw_getf dX9_becomeTree_5 lf_X9_26 hc4 hv4 ?_
  refine sw_cV (M := m_X9_becomeTree) dX9_becomeTree_8 lv_X9_302 hm5 hr5 rfl (by decide) rfl rfl rfl (Nat.le_of_ble_eq_true rfl) (fun _ _ => rfl) rfl ?_
  show SW sc m_X9_becomeTree _ _ _ 11 [some (.ref r0), some (.int l1), none] [.ref v5] g5 P
  refine sw_astore_n dX9_becomeTree_11 (by decide) rfl ?_
  show SW sc m_X9_becomeTree _ _ _ 12 [some (.ref r0), some (.int l1), some (.ref v5)] [] g5 P
  refine sw_aload_n dX9_becomeTree_12 rfl ?_
  refine sw_getf dX9_becomeTree_13 lf_X9_36 hc8 hv8 ?_
  refine sw_aload_n dX9_becomeTree_16 rfl ?_
  refine sw_getf dX9_becomeTree_17 lf_X9_26 hc10 hv10 ?_
  refine sw_getf dX9_becomeTree_20 lf_X9_110 hc11 hv11 ?_
  refine sw_iload_n dX9_becomeTree_23 rfl ?_
  refine sw_cV (M := m_X9_becomeTree) dX9_becomeTree_24 lv_X9_386 hm13 hr13 rfl (by decide) rfl rfl rfl (Nat.le_of_ble_eq_true rfl) (fun _ _ => rfl) rfl ?_
  show SW sc m_X9_becomeTree _ _ _ 27 [some (.ref r0), some (.int l1), some (.ref v5)] [] g13 P
  refine sw_aload_n dX9_becomeTree_27 rfl ?_
  refine sw_getf dX9_becomeTree_28 lf_X9_36 hc15 hv15 ?_
  refine sw_aload_n dX9_becomeTree_31 rfl ?_
  refine sw_getf dX9_becomeTree_32 lf_X9_26 hc17 hv17 ?_
  refine sw_cV (M := m_X9_becomeTree) dX9_becomeTree_35 lv_X9_389 hm18 hr18 rfl (by decide) rfl rfl rfl (Nat.le_of_ble_eq_true rfl) (fun _ _ => rfl) rfl ?_
  show SW sc m_X9_becomeTree _ _ _ 38 [some (.ref r0), some (.int l1), some (.ref v5)] [] g18 P
  refine sw_aload_n dX9_becomeTree_38 rfl ?_
  refine sw_getf dX9_becomeTree_39 lf_X9_68 hc20 hv20 ?_
  refine sw_iconst (v := 4) dX9_becomeTree_42 (by decide) ?_
  refine sw_dup2 dX9_becomeTree_43 (fun _ _ => rfl) (fun _ _ => rfl) ?_
  refine sw_iald dX9_becomeTree_44 hc23 ho23 hi23 ?_
  refine sw_iconst (v := 1) dX9_becomeTree_45 (by decide) ?_
  refine sw_iadd dX9_becomeTree_46 ?_
  refine sw_iast dX9_becomeTree_47 hc26 ho26 hl26 ?_
  refine sw_aload_n dX9_becomeTree_48 rfl ?_
  refine sw_getf dX9_becomeTree_49 lf_X9_26 hc28 hv28 ?_
  refine sw_aload_n dX9_becomeTree_52 rfl ?_
  refine sw_cV (M := m_X9_becomeTree) dX9_becomeTree_53 lv_X9_324 hm30 hr30 rfl (by decide) rfl rfl rfl (Nat.le_of_ble_eq_true rfl) (fun _ _ => rfl) rfl ?_
  show SW sc m_X9_becomeTree _ _ _ 56 [some (.ref r0), some (.int l1), some (.ref v5)] [.int v30] g30 P
  exact sw_ret (v := (some (.int v30))) dX9_becomeTree_56 rt_i hP
theorem b_X9_roundOf_0 {r0 : Nat} {l1 : Int32} {fs2 : List Value} {a2 : Nat} {fs4 : List Value} {a4 : Nat} {g5 : ab_H} {fs5 : List Value} (hc2 : (h)[r0]? = some (9, fs2)) (hv2 : fs2[3]? = some (.ref a2)) (hc4 : (h)[r0]? = some (9, fs4)) (hv4 : fs4[2]? = some (.ref a4)) (hr5 : (h)[a2]? = some (3, fs5)) (hm5 : MSE m_X3_copy d [.ref a2, .ref a4] h none g5) (k : SW sc m_X9_roundOf (d + 1) rc rs 13 [some (.ref r0), some (.int l1), some (.int 0)] [] g5 P) : SW sc m_X9_roundOf (d + 1) rc rs 0 [some (.ref r0), some (.int l1), none] [] h P := by
  refine sw_aload_n dX9_roundOf_0 rfl ?_
  refine sw_getf dX9_roundOf_1 lf_X9_30 hc2 hv2 ?_
  refine sw_aload_n dX9_roundOf_4 rfl ?_
  refine sw_getf dX9_roundOf_5 lf_X9_26 hc4 hv4 ?_
  refine sw_cV (M := m_X9_roundOf) dX9_roundOf_8 lv_X9_94 hm5 hr5 rfl (by decide) rfl rfl rfl (Nat.le_of_ble_eq_true rfl) (fun _ _ => rfl) rfl ?_
  show SW sc m_X9_roundOf _ _ _ 11 [some (.ref r0), some (.int l1), none] [] g5 P
  refine sw_iconst (v := 0) dX9_roundOf_11 (by decide) ?_
  refine sw_istore_n dX9_roundOf_12 (by decide) rfl ?_
  show SW sc m_X9_roundOf _ _ _ 13 [some (.ref r0), some (.int l1), some (.int 0)] [] g5 P
  exact (k)
theorem b_X9_roundOf_13 {r0 : Nat} {l1 : Int32} {l2 : Int32} (kt : 10 ≤ l2 → SW sc m_X9_roundOf d rc rs 43 [none, none, some (.int l2)] [] h P) (kf : ¬ (10 ≤ l2) → SW sc m_X9_roundOf d rc rs 19 [some (.ref r0), some (.int l1), some (.int l2)] [] h P) : SW sc m_X9_roundOf d rc rs 13 [some (.ref r0), some (.int l1), some (.int l2)] [] h P := by
  refine sw_iload_n dX9_roundOf_13 rfl ?_
  refine sw_bipush (v := 10) dX9_roundOf_14 (by decide) ?_
  exact sw_icmp_ge dX9_roundOf_16 (by decide) (fun q => (sw_fg [true, true, false] rfl (kt q))) (fun q => (kf q))
theorem b_X9_roundOf_19 {r0 : Nat} {l1 : Int32} {l2 : Int32} {fs2 : List Value} {a2 : Nat} {v4 : Int32} {g4 : ab_H} {fs4 : List Value} (hc2 : (h)[r0]? = some (9, fs2)) (hv2 : fs2[3]? = some (.ref a2)) (hr4 : (h)[a2]? = some (3, fs4)) (hm4 : MSE m_X3_degree d [.ref a2, .int l1] h (some (.int v4)) g4) (kt : v4 = 0 → SW sc m_X9_roundOf (d + 1) rc rs 43 [none, none, some (.int l2)] [] g4 P) (kf : ¬ (v4 = 0) → SW sc m_X9_roundOf (d + 1) rc rs 30 [some (.ref r0), some (.int l1), some (.int l2)] [] g4 P) : SW sc m_X9_roundOf (d + 1) rc rs 19 [some (.ref r0), some (.int l1), some (.int l2)] [] h P := by
  refine sw_aload_n dX9_roundOf_19 rfl ?_
  refine sw_getf dX9_roundOf_20 lf_X9_30 hc2 hv2 ?_
  refine sw_iload_n dX9_roundOf_23 rfl ?_
  refine sw_cV (M := m_X9_roundOf) dX9_roundOf_24 lv_X9_149 hm4 hr4 rfl (by decide) rfl rfl rfl (Nat.le_of_ble_eq_true rfl) (fun _ _ => rfl) rfl ?_
  show SW sc m_X9_roundOf _ _ _ 27 [some (.ref r0), some (.int l1), some (.int l2)] [.int v4] g4 P
  exact sw_if_eq dX9_roundOf_27 (by decide) (fun q => (sw_fg [true, true, false] rfl (kt q))) (fun q => (kf q))
theorem b_X9_roundOf_30 {r0 : Nat} {l1 : Int32} {l2 : Int32} {fs2 : List Value} {a2 : Nat} {g3 : ab_H} {fs3 : List Value} (hc2 : (h)[r0]? = some (9, fs2)) (hv2 : fs2[3]? = some (.ref a2)) (hr3 : (h)[a2]? = some (3, fs3)) (hm3 : MSE m_X3_dropLeaves d [.ref a2] h none g3) (k : SW sc m_X9_roundOf (d + 1) rc rs 13 [some (.ref r0), some (.int l1), some (.int (l2 + 1))] [] g3 P) : SW sc m_X9_roundOf (d + 1) rc rs 30 [some (.ref r0), some (.int l1), some (.int l2)] [] h P := by
  refine sw_aload_n dX9_roundOf_30 rfl ?_
  refine sw_getf dX9_roundOf_31 lf_X9_30 hc2 hv2 ?_
  refine sw_cV (M := m_X9_roundOf) dX9_roundOf_34 lv_X9_318 hm3 hr3 rfl (by decide) rfl rfl rfl (Nat.le_of_ble_eq_true rfl) (fun _ _ => rfl) rfl ?_
  show SW sc m_X9_roundOf _ _ _ 37 [some (.ref r0), some (.int l1), some (.int l2)] [] g3 P
  refine sw_iinc (v := l2 + 1) dX9_roundOf_37 rfl rfl (by decide) rfl ?_
  show SW sc m_X9_roundOf _ _ _ 40 [some (.ref r0), some (.int l1), some (.int (l2 + 1))] [] g3 P
  exact sw_goto dX9_roundOf_40 (by decide) (k)
theorem b_X9_roundOf_43 {l2 : Int32} (hP : P (.inl (some (.int l2))) h) : SW sc m_X9_roundOf d rc rs 43 [none, none, some (.int l2)] [] h P := by
  refine sw_iload_n dX9_roundOf_43 rfl ?_
  exact sw_ret (v := (some (.int l2))) dX9_roundOf_44 rt_i hP
theorem b_X9_holds_0 {l0 : Int32} {l1 : Int32} (kt : ((l0 >>> (l1 &&& 31)) &&& 1) = 0 → SW sc m_X9_holds d rc rs 12 [none, none] [] h P) (kf : ¬ (((l0 >>> (l1 &&& 31)) &&& 1) = 0) → SW sc m_X9_holds d rc rs 8 [none, none] [] h P) : SW sc m_X9_holds d rc rs 0 [some (.int l0), some (.int l1)] [] h P := by
  refine sw_iload_n dX9_holds_0 rfl ?_
  refine sw_iload_n dX9_holds_1 rfl ?_
  refine sw_ishr dX9_holds_2 ?_
  refine sw_iconst (v := 1) dX9_holds_3 (by decide) ?_
  refine sw_iand dX9_holds_4 ?_
  exact sw_if_eq dX9_holds_5 (by decide) (fun q => (sw_fg [true, true] rfl (kt q))) (fun q => (sw_fg [true, true] rfl (kf q)))
theorem b_X9_holds_8  (k : SW sc m_X9_holds d rc rs 13 [none, none] [.int 1] h P) : SW sc m_X9_holds d rc rs 8 [none, none] [] h P := by
  refine sw_iconst (v := 1) dX9_holds_8 (by decide) ?_
  exact sw_goto dX9_holds_9 (by decide) (k)
theorem b_X9_holds_12  (k : SW sc m_X9_holds d rc rs 13 [none, none] [.int 0] h P) : SW sc m_X9_holds d rc rs 12 [none, none] [] h P := by
  refine sw_iconst (v := 0) dX9_holds_12 (by decide) ?_
  exact (k)
theorem b_X9_holds_13 {s0 : Int32} (hz1 : narrow .boolean (.int s0) = .int s0) (hP : P (.inl (some (.int s0))) h) : SW sc m_X9_holds d rc rs 13 [none, none] [.int s0] h P := by
  exact sw_ret (v := (some (.int s0))) dX9_holds_13 (rt_n hz1) hP
theorem b_X9_without_0 {l0 : Int32} {l1 : Int32} (hP : P (.inl (some (.int (l0 &&& ((1 <<< (l1 &&& 31)) ^^^ (-1)))))) h) : SW sc m_X9_without d rc rs 0 [some (.int l0), some (.int l1)] [] h P := by
  refine sw_iload_n dX9_without_0 rfl ?_
  refine sw_iconst (v := 1) dX9_without_1 (by decide) ?_
  refine sw_iload_n dX9_without_2 rfl ?_
  refine sw_ishl dX9_without_3 ?_
  refine sw_iconst (v := (-1)) dX9_without_4 (by decide) ?_
  refine sw_ixor dX9_without_5 ?_
  refine sw_iand dX9_without_6 ?_
  exact sw_ret (v := (some (.int (l0 &&& ((1 <<< (l1 &&& 31)) ^^^ (-1)))))) dX9_without_7 rt_i hP
theorem b_X9_lowest_0 {l0 : Int32} (k : SW sc m_X9_lowest d rc rs 2 [some (.int l0), some (.int 0)] [] h P) : SW sc m_X9_lowest d rc rs 0 [some (.int l0), none] [] h P := by
  refine sw_iconst (v := 0) dX9_lowest_0 (by decide) ?_
  refine sw_istore_n dX9_lowest_1 (by decide) rfl ?_
  show SW sc m_X9_lowest _ _ _ 2 [some (.int l0), some (.int 0)] [] h P
  exact (k)
theorem b_X9_lowest_2 {l0 : Int32} {l1 : Int32} (kt : 10 ≤ l1 → SW sc m_X9_lowest d rc rs 24 [none, none] [] h P) (kf : ¬ (10 ≤ l1) → SW sc m_X9_lowest d rc rs 8 [some (.int l0), some (.int l1)] [] h P) : SW sc m_X9_lowest d rc rs 2 [some (.int l0), some (.int l1)] [] h P := by
  refine sw_iload_n dX9_lowest_2 rfl ?_
  refine sw_bipush (v := 10) dX9_lowest_3 (by decide) ?_
  exact sw_icmp_ge dX9_lowest_5 (by decide) (fun q => (sw_fg [true, true] rfl (kt q))) (fun q => (kf q))
theorem b_X9_lowest_8 {l0 : Int32} {l1 : Int32} {v3 : Int32} {g3 : ab_H} (hm3 : MSE m_X9_holds d [.int l0, .int l1] h (some (.int v3)) g3) (kt : v3 = 0 → SW sc m_X9_lowest (d + 1) rc rs 18 [some (.int l0), some (.int l1)] [] g3 P) (kf : ¬ (v3 = 0) → SW sc m_X9_lowest (d + 1) rc rs 16 [none, some (.int l1)] [] g3 P) : SW sc m_X9_lowest (d + 1) rc rs 8 [some (.int l0), some (.int l1)] [] h P := by
  refine sw_iload_n dX9_lowest_8 rfl ?_
  refine sw_iload_n dX9_lowest_9 rfl ?_
  refine sw_cS (M := m_X9_lowest) dX9_lowest_10 ls_X9_216 hm3 rfl rfl (Nat.le_of_ble_eq_true rfl) (fun _ _ => rfl) rfl ?_
  show SW sc m_X9_lowest _ _ _ 13 [some (.int l0), some (.int l1)] [.int v3] g3 P
  exact sw_if_eq dX9_lowest_13 (by decide) (fun q => (kt q)) (fun q => (sw_fg [true, false] rfl (kf q)))
theorem b_X9_lowest_16 {l1 : Int32} (hP : P (.inl (some (.int l1))) h) : SW sc m_X9_lowest d rc rs 16 [none, some (.int l1)] [] h P := by
  refine sw_iload_n dX9_lowest_16 rfl ?_
  exact sw_ret (v := (some (.int l1))) dX9_lowest_17 rt_i hP
theorem b_X9_lowest_18 {l0 : Int32} {l1 : Int32} (k : SW sc m_X9_lowest d rc rs 2 [some (.int l0), some (.int (l1 + 1))] [] h P) : SW sc m_X9_lowest d rc rs 18 [some (.int l0), some (.int l1)] [] h P := by
  refine sw_iinc (v := l1 + 1) dX9_lowest_18 rfl rfl (by decide) rfl ?_
  show SW sc m_X9_lowest _ _ _ 21 [some (.int l0), some (.int (l1 + 1))] [] h P
  exact sw_goto dX9_lowest_21 (by decide) (k)
theorem b_X9_lowest_24  (hP : P (.inl (some (.int (-1)))) h) : SW sc m_X9_lowest d rc rs 24 [none, none] [] h P := by
  refine sw_iconst (v := (-1)) dX9_lowest_24 (by decide) ?_
  exact sw_ret (v := (some (.int (-1)))) dX9_lowest_25 rt_i hP
theorem b_X9_factorial_0 {l0 : Int32} (k : SW sc m_X9_factorial d rc rs 4 [some (.int l0), some (.int 1), some (.int 2)] [] h P) : SW sc m_X9_factorial d rc rs 0 [some (.int l0), none, none] [] h P := by
  refine sw_iconst (v := 1) dX9_factorial_0 (by decide) ?_
  refine sw_istore_n dX9_factorial_1 (by decide) rfl ?_
  show SW sc m_X9_factorial _ _ _ 2 [some (.int l0), some (.int 1), none] [] h P
  refine sw_iconst (v := 2) dX9_factorial_2 (by decide) ?_
  refine sw_istore_n dX9_factorial_3 (by decide) rfl ?_
  show SW sc m_X9_factorial _ _ _ 4 [some (.int l0), some (.int 1), some (.int 2)] [] h P
  exact (k)
theorem b_X9_factorial_4 {l0 : Int32} {l1 : Int32} {l2 : Int32} (kt : l0 < l2 → SW sc m_X9_factorial d rc rs 19 [none, some (.int l1), none] [] h P) (kf : ¬ (l0 < l2) → SW sc m_X9_factorial d rc rs 9 [some (.int l0), some (.int l1), some (.int l2)] [] h P) : SW sc m_X9_factorial d rc rs 4 [some (.int l0), some (.int l1), some (.int l2)] [] h P := by
  refine sw_iload_n dX9_factorial_4 rfl ?_
  refine sw_iload_n dX9_factorial_5 rfl ?_
  exact sw_icmp_gt dX9_factorial_6 (by decide) (fun q => (sw_fg [true, false, true] rfl (kt q))) (fun q => (kf q))
theorem b_X9_factorial_9 {l0 : Int32} {l1 : Int32} {l2 : Int32} (k : SW sc m_X9_factorial d rc rs 4 [some (.int l0), some (.int (l1 * l2)), some (.int (l2 + 1))] [] h P) : SW sc m_X9_factorial d rc rs 9 [some (.int l0), some (.int l1), some (.int l2)] [] h P := by
  refine sw_iload_n dX9_factorial_9 rfl ?_
  refine sw_iload_n dX9_factorial_10 rfl ?_
  refine sw_imul dX9_factorial_11 ?_
  refine sw_istore_n dX9_factorial_12 (by decide) rfl ?_
  show SW sc m_X9_factorial _ _ _ 13 [some (.int l0), some (.int (l1 * l2)), some (.int l2)] [] h P
  refine sw_iinc (v := l2 + 1) dX9_factorial_13 rfl rfl (by decide) rfl ?_
  show SW sc m_X9_factorial _ _ _ 16 [some (.int l0), some (.int (l1 * l2)), some (.int (l2 + 1))] [] h P
  exact sw_goto dX9_factorial_16 (by decide) (k)
theorem b_X9_factorial_19 {l1 : Int32} (hP : P (.inl (some (.int l1))) h) : SW sc m_X9_factorial d rc rs 19 [none, some (.int l1), none] [] h P := by
  refine sw_iload_n dX9_factorial_19 rfl ?_
  exact sw_ret (v := (some (.int l1))) dX9_factorial_20 rt_i hP
theorem b_X9_quotient_0 {l0 : Int32} {l1 : Int32} (kt : ¬ l1 = 0 → SW sc m_X9_quotient d rc rs 8 [some (.int l0), some (.int l1)] [] h P) (kf : l1 = 0 → SW sc m_X9_quotient d rc rs 4 [none, none] [] h P) : SW sc m_X9_quotient d rc rs 0 [some (.int l0), some (.int l1)] [] h P := by
  refine sw_iload_n dX9_quotient_0 rfl ?_
  exact sw_if_ne dX9_quotient_1 (by decide) (fun q => (kt q)) (fun q => (sw_fg [true, true] rfl (kf q)))
theorem b_X9_quotient_4  (k : SW sc m_X9_quotient d rc rs 11 [none, none] [.int 0] h P) : SW sc m_X9_quotient d rc rs 4 [none, none] [] h P := by
  refine sw_iconst (v := 0) dX9_quotient_4 (by decide) ?_
  exact sw_goto dX9_quotient_5 (by decide) (k)
end
