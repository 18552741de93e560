section
variable {sc : Option (List Int32)} {d rc rs : Nat} {h : ab_H} {P : ab_O → ab_H → Prop}
theorem b_X9_code_22  (hP : P (.inr 4) h) : SW sc m_X9_code d (rc + 1) (rs + 6) 22 [none, none] [] h P := by
  exact sw_throwN (M := m_X9_code) dX9_code_22 dX9_code_25 dX9_code_26 dX9_code_28 dX9_code_31 lt_X9_4 sr_X9_230 (Nat.le_of_ble_eq_true rfl) (fun _ _ => rfl) (st_out rfl hP)
theorem b_X9_code_32 {r0 : Nat} {l1 : Int32} {fs2 : List Value} {a2 : Nat} {fs4 : List Value} {a4 : Nat} {g5 : ab_H} {fs5 : List Value} {fs7 : List Value} {a7 : Nat} {v9 : Int32} {g9 : ab_H} {fs9 : List Value} (hc2 : (h)[r0]? = some (9, fs2)) (hv2 : fs2[4]? = some (.ref a2)) (hc4 : (h)[r0]? = some (9, fs4)) (hv4 : fs4[2]? = some (.ref a4)) (hr5 : (h)[a2]? = some (1, fs5)) (hm5 : MSE m_X1_take d [.ref a2, .ref a4] h none g5) (hc7 : (g5)[r0]? = some (9, fs7)) (hv7 : fs7[4]? = some (.ref a7)) (hr9 : (g5)[a7]? = some (1, fs9)) (hm9 : MSE m_X1_number d [.ref a7, .int l1] g5 (some (.int v9)) g9) (hP : P (.inl (some (.int v9))) g9) : SW sc m_X9_code (d + 1) rc rs 32 [some (.ref r0), some (.int l1)] [] h P := by
  refine sw_aload_n dX9_code_32 rfl ?_
  refine sw_getf dX9_code_33 lf_X9_36 hc2 hv2 ?_
  refine sw_aload_n dX9_code_36 rfl ?_
  refine sw_getf dX9_code_37 lf_X9_26 hc4 hv4 ?_
  refine sw_cV (M := m_X9_code) dX9_code_40 lv_X9_232 hm5 hr5 rfl (by decide) rfl rfl rfl (Nat.le_of_ble_eq_true rfl) (fun _ _ => rfl) rfl ?_
  show SW sc m_X9_code _ _ _ 43 [some (.ref r0), some (.int l1)] [] g5 P
  refine sw_aload_n dX9_code_43 rfl ?_
  refine sw_getf dX9_code_44 lf_X9_36 hc7 hv7 ?_
  refine sw_iload_n dX9_code_47 rfl ?_
  refine sw_cV (M := m_X9_code) dX9_code_48 lv_X9_235 hm9 hr9 rfl (by decide) rfl rfl rfl (Nat.le_of_ble_eq_true rfl) (fun _ _ => rfl) rfl ?_
  show SW sc m_X9_code _ _ _ 51 [some (.ref r0), some (.int l1)] [.int v9] g9 P
  exact sw_ret (v := (some (.int v9))) dX9_code_51 rt_i hP
theorem b_X9_rank_0 {r0 : Nat} {g2 : ab_H} {fs2 : List Value} {fs4 : List Value} {a4 : Nat} {fs6 : List Value} {a6 : Nat} {v7 : Int32} {g7 : ab_H} {fs7 : List Value} (hr2 : (h)[r0]? = some (9, fs2)) (hm2 : MSE m_X9_needTree d [.ref r0] h none g2) (hc4 : (g2)[r0]? = some (9, fs4)) (hv4 : fs4[4]? = some (.ref a4)) (hc6 : (g2)[r0]? = some (9, fs6)) (hv6 : fs6[2]? = some (.ref a6)) (hr7 : (g2)[a4]? = some (1, fs7)) (hm7 : MSE m_X1_rankOf d [.ref a4, .ref a6] g2 (some (.int v7)) g7) (hP : P (.inl (some (.int v7))) g7) : SW sc m_X9_rank (d + 1) rc rs 0 [some (.ref r0)] [] h P := by
  refine sw_aload_n dX9_rank_0 rfl ?_
  refine sw_cV (M := m_X9_rank) dX9_rank_1 lv_X9_224 hm2 hr2 rfl (by decide) rfl rfl rfl (Nat.le_of_ble_eq_true rfl) (fun _ _ => rfl) rfl ?_
  show SW sc m_X9_rank _ _ _ 4 [some (.ref r0)] [] g2 P
  refine sw_aload_n dX9_rank_4 rfl ?_
  refine sw_getf dX9_rank_5 lf_X9_36 hc4 hv4 ?_
  refine sw_aload_n dX9_rank_8 rfl ?_
  refine sw_getf dX9_rank_9 lf_X9_26 hc6 hv6 ?_
  refine sw_cV (M := m_X9_rank) dX9_rank_12 lv_X9_238 hm7 hr7 rfl (by decide) rfl rfl rfl (Nat.le_of_ble_eq_true rfl) (fun _ _ => rfl) rfl ?_
  show SW sc m_X9_rank _ _ _ 15 [some (.ref r0)] [.int v7] g7 P
  exact sw_ret (v := (some (.int v7))) dX9_rank_15 rt_i hP
theorem bx_X9_rank_0_1 {r0 : Nat} {E : Nat} {g2 : ab_H} {fs2 : List Value} (hr2 : (h)[r0]? = some (9, fs2)) (hm2 : MSX m_X9_needTree d [.ref r0] h E g2) (hx : ST sc m_X9_rank (d + 1) rc rs 1 [some (.ref r0)] g2 E P) : SW sc m_X9_rank (d + 1) (rc + 1) (rs + 6) 0 [some (.ref r0)] [] h P := by
  refine sw_aload_n dX9_rank_0 rfl ?_
  exact sw_xV (M := m_X9_rank) dX9_rank_1 lv_X9_224 hm2 hr2 rfl (by decide) rfl rfl rfl (Nat.le_of_ble_eq_true rfl) (fun _ _ => rfl) rfl hx
theorem b_X9_sameDegrees_0 {r0 : Nat} {g2 : ab_H} {fs2 : List Value} {fs4 : List Value} {a4 : Nat} {fs5 : List Value} {x5 : Int32} {v8 : Int32} {g8 : ab_H} (hr2 : (h)[r0]? = some (9, fs2)) (hm2 : MSE m_X9_needTree d [.ref r0] h none g2) (hc4 : (g2)[r0]? = some (9, fs4)) (hv4 : fs4[2]? = some (.ref a4)) (hc5 : (g2)[a4]? = some (3, fs5)) (hv5 : fs5[2]? = some (.int x5)) (hm8 : MSE m_X9_factorial d [.int (x5 - 2)] g2 (some (.int v8)) g8) (k : SW sc m_X9_sameDegrees (d + 1) rc rs 19 [some (.ref r0), some (.int v8), some (.int 0)] [] g8 P) : SW sc m_X9_sameDegrees (d + 1) rc rs 0 [some (.ref r0), none, none] [] h P := by
  refine sw_aload_n dX9_sameDegrees_0 rfl ?_
  refine sw_cV (M := m_X9_sameDegrees) dX9_sameDegrees_1 lv_X9_224 hm2 hr2 rfl (by decide) rfl rfl rfl (Nat.le_of_ble_eq_true rfl) (fun _ _ => rfl) rfl ?_
  show SW sc m_X9_sameDegrees _ _ _ 4 [some (.ref r0), none, none] [] g2 P
  refine sw_aload_n dX9_sameDegrees_4 rfl ?_
  refine sw_getf dX9_sameDegrees_5 lf_X9_26 hc4 hv4 ?_
  refine sw_getf dX9_sameDegrees_8 lf_X9_110 hc5 hv5 ?_
  refine sw_iconst (v := 2) dX9_sameDegrees_11 (by decide) ?_
  refine sw_isub dX9_sameDegrees_12 ?_
  refine sw_cS (M := m_X9_sameDegrees) dX9_sameDegrees_13 ls_X9_242 hm8 rfl rfl (Nat.le_of_ble_eq_true rfl) (fun _ _ => rfl) rfl ?_
  show SW sc m_X9_sameDegrees _ _ _ 16 [some (.ref r0), none, none] [.int v8] g8 P
  refine sw_istore_n dX9_sameDegrees_16 (by decide) rfl ?_
  show SW sc m_X9_sameDegrees _ _ _ 17 [some (.ref r0), some (.int v8), none] [] g8 P
  refine sw_iconst (v := 0) dX9_sameDegrees_17 (by decide) ?_
  refine sw_istore_n dX9_sameDegrees_18 (by decide) rfl ?_
  show SW sc m_X9_sameDegrees _ _ _ 19 [some (.ref r0), some (.int v8), some (.int 0)] [] g8 P
  exact (k)
theorem bx_X9_sameDegrees_0_1 {r0 : Nat} {E : Nat} {g2 : ab_H} {fs2 : List Value} (hr2 : (h)[r0]? = some (9, fs2)) (hm2 : MSX m_X9_needTree d [.ref r0] h E g2) (hx : ST sc m_X9_sameDegrees (d + 1) rc rs 1 [some (.ref r0), none, none] g2 E P) : SW sc m_X9_sameDegrees (d + 1) (rc + 1) (rs + 6) 0 [some (.ref r0), none, none] [] h P := by
  refine sw_aload_n dX9_sameDegrees_0 rfl ?_
  exact sw_xV (M := m_X9_sameDegrees) dX9_sameDegrees_1 lv_X9_224 hm2 hr2 rfl (by decide) rfl rfl rfl (Nat.le_of_ble_eq_true rfl) (fun _ _ => rfl) rfl hx
theorem b_X9_sameDegrees_19 {r0 : Nat} {l1 : Int32} {l2 : Int32} {fs3 : List Value} {a3 : Nat} {fs4 : List Value} {x4 : Int32} (hc3 : (h)[r0]? = some (9, fs3)) (hv3 : fs3[2]? = some (.ref a3)) (hc4 : (h)[a3]? = some (3, fs4)) (hv4 : fs4[2]? = some (.int x4)) (kt : x4 ≤ l2 → SW sc m_X9_sameDegrees d rc rs 54 [none, some (.int l1), none] [] h P) (kf : ¬ (x4 ≤ l2) → SW sc m_X9_sameDegrees d rc rs 30 [some (.ref r0), some (.int l1), some (.int l2)] [] h P) : SW sc m_X9_sameDegrees d rc rs 19 [some (.ref r0), some (.int l1), some (.int l2)] [] h P := by
  refine sw_iload_n dX9_sameDegrees_19 rfl ?_
  refine sw_aload_n dX9_sameDegrees_20 rfl ?_
  refine sw_getf dX9_sameDegrees_21 lf_X9_26 hc3 hv3 ?_
  refine sw_getf dX9_sameDegrees_24 lf_X9_110 hc4 hv4 ?_
  exact sw_icmp_ge dX9_sameDegrees_27 (by decide) (fun q => (sw_fg [true, false, true] rfl (kt q))) (fun q => (kf q))
theorem b_X9_sameDegrees_30 {r0 : Nat} {l1 : Int32} {l2 : Int32} {fs3 : List Value} {a3 : Nat} {v5 : Int32} {g5 : ab_H} {fs5 : List Value} {v8 : Int32} {g8 : ab_H} {v9 : Int32} {g9 : ab_H} (hc3 : (h)[r0]? = some (9, fs3)) (hv3 : fs3[2]? = some (.ref a3)) (hr5 : (h)[a3]? = some (3, fs5)) (hm5 : MSE m_X3_degree d [.ref a3, .int l2] h (some (.int v5)) g5) (hm8 : MSE m_X9_factorial d [.int (v5 - 1)] g5 (some (.int v8)) g8) (hm9 : MSE m_X9_quotient d [.int l1, .int v8] g8 (some (.int v9)) g9) (k : SW sc m_X9_sameDegrees (d + 1) rc rs 19 [some (.ref r0), some (.int v9), some (.int (l2 + 1))] [] g9 P) : SW sc m_X9_sameDegrees (d + 1) rc rs 30 [some (.ref r0), some (.int l1), some (.int l2)] [] h P := by
  refine sw_iload_n dX9_sameDegrees_30 rfl ?_
  refine sw_aload_n dX9_sameDegrees_31 rfl ?_
  refine sw_getf dX9_sameDegrees_32 lf_X9_26 hc3 hv3 ?_
  refine sw_iload_n dX9_sameDegrees_35 rfl ?_
  refine sw_cV (M := m_X9_sameDegrees) dX9_sameDegrees_36 lv_X9_149 hm5 hr5 rfl (by decide) rfl rfl rfl (Nat.le_of_ble_eq_true rfl) (fun _ _ => rfl) rfl ?_
  show SW sc m_X9_sameDegrees _ _ _ 39 [some (.ref r0), some (.int l1), some (.int l2)] [.int v5, .int l1] g5 P
  refine sw_iconst (v := 1) dX9_sameDegrees_39 (by decide) ?_
  refine sw_isub dX9_sameDegrees_40 ?_
  refine sw_cS (M := m_X9_sameDegrees) dX9_sameDegrees_41 ls_X9_242 hm8 rfl rfl (Nat.le_of_ble_eq_true rfl) (fun _ _ => rfl) rfl ?_
  show SW sc m_X9_sameDegrees _ _ _ 44 [some (.ref r0), some (.int l1), some (.int l2)] [.int v8, .int l1] g8 P
  refine sw_cS (M := m_X9_sameDegrees) dX9_sameDegrees_44 ls_X9_245 hm9 rfl rfl (Nat.le_of_ble_eq_true rfl) (fun _ _ => rfl) rfl ?_
  show SW sc m_X9_sameDegrees _ _ _ 47 [some (.ref r0), some (.int l1), some (.int l2)] [.int v9] g9 P
  refine sw_istore_n dX9_sameDegrees_47 (by decide) rfl ?_
  show SW sc m_X9_sameDegrees _ _ _ 48 [some (.ref r0), some (.int v9), some (.int l2)] [] g9 P
  refine sw_iinc (v := l2 + 1) dX9_sameDegrees_48 rfl rfl (by decide) rfl ?_
  show SW sc m_X9_sameDegrees _ _ _ 51 [some (.ref r0), some (.int v9), some (.int (l2 + 1))] [] g9 P
  exact sw_goto dX9_sameDegrees_51 (by decide) (k)
theorem b_X9_sameDegrees_54 {l1 : Int32} (hP : P (.inl (some (.int l1))) h) : SW sc m_X9_sameDegrees d rc rs 54 [none, some (.int l1), none] [] h P := by
  refine sw_iload_n dX9_sameDegrees_54 rfl ?_
  exact sw_ret (v := (some (.int l1))) dX9_sameDegrees_55 rt_i hP
theorem b_X9_writeWord_0 {r0 : Nat} {l1 : Int32} {v3 : Int32} {g3 : ab_H} {fs3 : List Value} {fs6 : List Value} {a6 : Nat} {v8 : Int32} {g8 : ab_H} {fs8 : List Value} {fs11 : List Value} {a11 : Nat} {fs13 : List Value} {a13 : Nat} {v15 : Int32} {g15 : ab_H} {fs15 : List Value} {v19 : Int32} {g19 : ab_H} (hr3 : (h)[r0]? = some (9, fs3)) (hm3 : MSE m_X9_neededComponent d [.ref r0, .int l1] h (some (.int v3)) g3) (hc6 : (g3)[r0]? = some (9, fs6)) (hv6 : fs6[1]? = some (.ref a6)) (hr8 : (g3)[a6]? = some (0, fs8)) (hm8 : MSE m_X0_shorten d [.ref a6, .int 0] g3 (some (.int v8)) g8) (hc11 : (g8)[r0]? = some (9, fs11)) (hv11 : fs11[5]? = some (.ref a11)) (hc13 : (g8)[r0]? = some (9, fs13)) (hv13 : fs13[2]? = some (.ref a13)) (hr15 : (g8)[a11]? = some (8, fs15)) (hm15 : MSE m_X8_wordOf d [.ref a11, .ref a13, .int v3] g8 (some (.int v15)) g15) (hm19 : MSE m_J6_bitCount_0f7a4 d [.int v3] g15 (some (.int v19)) g19) (k : SW sc m_X9_writeWord (d + 1) rc rs 39 [some (.ref r0), none, none, some (.int v15), some (.int (2 * v19)), some (.int 0)] [] g19 P) : SW sc m_X9_writeWord (d + 1) rc rs 0 [some (.ref r0), some (.int l1), none, none, none, none] [] h P := by
  refine sw_aload_n dX9_writeWord_0 rfl ?_
  refine sw_iload_n dX9_writeWord_1 rfl ?_
  refine sw_cV (M := m_X9_writeWord) dX9_writeWord_2 lv_X9_185 hm3 hr3 rfl (by decide) rfl rfl rfl (Nat.le_of_ble_eq_true rfl) (fun _ _ => rfl) rfl ?_
  show SW sc m_X9_writeWord _ _ _ 5 [some (.ref r0), some (.int l1), none, none, none, none] [.int v3] g3 P
  refine sw_istore_n dX9_writeWord_5 (by decide) rfl ?_
  show SW sc m_X9_writeWord _ _ _ 6 [some (.ref r0), some (.int l1), some (.int v3), none, none, none] [] g3 P
  refine sw_aload_n dX9_writeWord_6 rfl ?_
  refine sw_getf dX9_writeWord_7 lf_X9_19 hc6 hv6 ?_
  refine sw_iconst (v := 0) dX9_writeWord_10 (by decide) ?_
  refine sw_cV (M := m_X9_writeWord) dX9_writeWord_11 lv_X9_83 hm8 hr8 rfl (by decide) rfl rfl rfl (Nat.le_of_ble_eq_true rfl) (fun _ _ => rfl) rfl ?_
  show SW sc m_X9_writeWord _ _ _ 14 [some (.ref r0), some (.int l1), some (.int v3), none, none, none] [.int v8] g8 P
  refine sw_pop dX9_writeWord_14 (fun _ _ => rfl) ?_
  refine sw_aload_n dX9_writeWord_15 rfl ?_
  refine sw_getf dX9_writeWord_16 lf_X9_43 hc11 hv11 ?_
  refine sw_aload_n dX9_writeWord_19 rfl ?_
  refine sw_getf dX9_writeWord_20 lf_X9_26 hc13 hv13 ?_
  refine sw_iload_n dX9_writeWord_23 rfl ?_
  refine sw_cV (M := m_X9_writeWord) dX9_writeWord_24 lv_X9_248 hm15 hr15 rfl (by decide) rfl rfl rfl (Nat.le_of_ble_eq_true rfl) (fun _ _ => rfl) rfl ?_
  show SW sc m_X9_writeWord _ _ _ 27 [some (.ref r0), some (.int l1), some (.int v3), none, none, none] [.int v15] g15 P
  refine sw_istore_n dX9_writeWord_27 (by decide) rfl ?_
  show SW sc m_X9_writeWord _ _ _ 28 [some (.ref r0), some (.int l1), some (.int v3), some (.int v15), none, none] [] g15 P
  refine sw_iconst (v := 2) dX9_writeWord_28 (by decide) ?_
  refine sw_iload_n dX9_writeWord_29 rfl ?_
  refine sw_cS (M := m_X9_writeWord) dX9_writeWord_30 ls_X9_161 hm19 rfl rfl (Nat.le_of_ble_eq_true rfl) (fun _ _ => rfl) rfl ?_
  show SW sc m_X9_writeWord _ _ _ 33 [some (.ref r0), some (.int l1), some (.int v3), some (.int v15), none, none] [.int v19, .int 2] g19 P
  refine sw_imul dX9_writeWord_33 ?_
  refine sw_istore dX9_writeWord_34 (by decide) rfl ?_
  show SW sc m_X9_writeWord _ _ _ 36 [some (.ref r0), some (.int l1), some (.int v3), some (.int v15), some (.int (2 * v19)), none] [] g19 P
  refine sw_iconst (v := 0) dX9_writeWord_36 (by decide) ?_
  refine sw_istore dX9_writeWord_37 (by decide) rfl ?_
  show SW sc m_X9_writeWord _ _ _ 39 [some (.ref r0), some (.int l1), some (.int v3), some (.int v15), some (.int (2 * v19)), some (.int 0)] [] g19 P
  exact (sw_fg [false, true, true, false, false, false] rfl (k))
theorem bx_X9_writeWord_0_2 {r0 : Nat} {l1 : Int32} {E : Nat} {g3 : ab_H} {fs3 : List Value} (hr3 : (h)[r0]? = some (9, fs3)) (hm3 : MSX m_X9_neededComponent d [.ref r0, .int l1] h E g3) (hx : ST sc m_X9_writeWord (d + 1) rc rs 2 [some (.ref r0), some (.int l1), none, none, none, none] g3 E P) : SW sc m_X9_writeWord (d + 1) (rc + 1) (rs + 6) 0 [some (.ref r0), some (.int l1), none, none, none, none] [] h P := by
  refine sw_aload_n dX9_writeWord_0 rfl ?_
  refine sw_iload_n dX9_writeWord_1 rfl ?_
  exact sw_xV (M := m_X9_writeWord) dX9_writeWord_2 lv_X9_185 hm3 hr3 rfl (by decide) rfl rfl rfl (Nat.le_of_ble_eq_true rfl) (fun _ _ => rfl) rfl hx
theorem b_X9_writeWord_39 {r0 : Nat} {l3 : Int32} {l4 : Int32} {l5 : Int32} (kt : l4 ≤ l5 → SW sc m_X9_writeWord d rc rs 65 [some (.ref r0), none, none, none, none, none] [] h P) (kf : ¬ (l4 ≤ l5) → SW sc m_X9_writeWord d rc rs 46 [some (.ref r0), none, none, some (.int l3), some (.int l4), some (.int l5)] [] h P) : SW sc m_X9_writeWord d rc rs 39 [some (.ref r0), none, none, some (.int l3), some (.int l4), some (.int l5)] [] h P := by
  refine sw_iload dX9_writeWord_39 rfl ?_
  refine sw_iload dX9_writeWord_41 rfl ?_
  exact sw_icmp_ge dX9_writeWord_43 (by decide) (fun q => (sw_fg [false, false, false, true, true, true] rfl (kt q))) (fun q => (kf q))
theorem b_X9_writeWord_46 {r0 : Nat} {l3 : Int32} {l4 : Int32} {l5 : Int32} {fs2 : List Value} {a2 : Nat} {v5 : Int32} {g5 : ab_H} {g6 : ab_H} {fs6 : List Value} (hc2 : (h)[r0]? = some (9, fs2)) (hv2 : fs2[1]? = some (.ref a2)) (hm5 : MSE m_X8_signAt d [.int l3, .int l5] h (some (.int v5)) g5) (hr6 : (g5)[a2]? = some (0, fs6)) (hm6 : MSE m_X0_put d [.ref a2, .int v5] g5 none g6) (k : SW sc m_X9_writeWord (d + 1) rc rs 39 [some (.ref r0), none, none, some (.int l3), some (.int l4), some (.int (l5 + 1))] [] g6 P) : SW sc m_X9_writeWord (d + 1) rc rs 46 [some (.ref r0), none, none, some (.int l3), some (.int l4), some (.int l5)] [] h P := by
  refine sw_aload_n dX9_writeWord_46 rfl ?_
  refine sw_getf dX9_writeWord_47 lf_X9_19 hc2 hv2 ?_
  refine sw_iload_n dX9_writeWord_50 rfl ?_
  refine sw_iload dX9_writeWord_51 rfl ?_
  refine sw_cS (M := m_X9_writeWord) dX9_writeWord_53 ls_X9_251 hm5 rfl rfl (Nat.le_of_ble_eq_true rfl) (fun _ _ => rfl) rfl ?_
  show SW sc m_X9_writeWord _ _ _ 56 [some (.ref r0), none, none, some (.int l3), some (.int l4), some (.int l5)] [.int v5, .ref a2] g5 P
  refine sw_cV (M := m_X9_writeWord) dX9_writeWord_56 lv_X9_254 hm6 hr6 rfl (by decide) rfl rfl rfl (Nat.le_of_ble_eq_true rfl) (fun _ _ => rfl) rfl ?_
  show SW sc m_X9_writeWord _ _ _ 59 [some (.ref r0), none, none, some (.int l3), some (.int l4), some (.int l5)] [] g6 P
  refine sw_iinc (v := l5 + 1) dX9_writeWord_59 rfl rfl (by decide) rfl ?_
  show SW sc m_X9_writeWord _ _ _ 62 [some (.ref r0), none, none, some (.int l3), some (.int l4), some (.int (l5 + 1))] [] g6 P
  exact sw_goto dX9_writeWord_62 (by decide) (k)
theorem b_X9_writeWord_65 {r0 : Nat} {fs2 : List Value} {a2 : Nat} {fs3 : List Value} {x3 : Int32} (hc2 : (h)[r0]? = some (9, fs2)) (hv2 : fs2[1]? = some (.ref a2)) (hc3 : (h)[a2]? = some (0, fs3)) (hv3 : fs3[1]? = some (.int x3)) (hP : P (.inl (some (.int x3))) h) : SW sc m_X9_writeWord d rc rs 65 [some (.ref r0), none, none, none, none, none] [] h P := by
  refine sw_aload_n dX9_writeWord_65 rfl ?_
  refine sw_getf dX9_writeWord_66 lf_X9_19 hc2 hv2 ?_
  refine sw_getf dX9_writeWord_69 lf_X9_75 hc3 hv3 ?_
  exact sw_ret (v := (some (.int x3))) dX9_writeWord_72 rt_i hP
theorem b_X9_writeText_0 {r0 : Nat} {fs2 : List Value} {a2 : Nat} {v4 : Int32} {g4 : ab_H} {fs4 : List Value} {fs7 : List Value} {a7 : Nat} {fs10 : List Value} {a10 : Nat} {fs11 : List Value} {x11 : Int32} {g13 : ab_H} {fs13 : List Value} (hc2 : (h)[r0]? = some (9, fs2)) (hv2 : fs2[1]? = some (.ref a2)) (hr4 : (h)[a2]? = some (0, fs4)) (hm4 : MSE m_X0_shorten d [.ref a2, .int 0] h (some (.int v4)) g4) (hc7 : (g4)[r0]? = some (9, fs7)) (hv7 : fs7[1]? = some (.ref a7)) (hc10 : (g4)[r0]? = some (9, fs10)) (hv10 : fs10[2]? = some (.ref a10)) (hc11 : (g4)[a10]? = some (3, fs11)) (hv11 : fs11[2]? = some (.int x11)) (hr13 : (g4)[a7]? = some (0, fs13)) (hm13 : MSE m_X0_putStatement d [.ref a7, .retAddr 0, .int x11, .int (-1)] g4 none g13) (k : SW sc m_X9_writeText (d + 1) rc rs 29 [some (.ref r0), some (.int 0), none] [] g13 P) : SW sc m_X9_writeText (d + 1) rc rs 0 [some (.ref r0), none, none] [] h P := by
  refine sw_aload_n dX9_writeText_0 rfl ?_
  refine sw_getf dX9_writeText_1 lf_X9_19 hc2 hv2 ?_
  refine sw_iconst (v := 0) dX9_writeText_4 (by decide) ?_
  refine sw_cV (M := m_X9_writeText) dX9_writeText_5 lv_X9_83 hm4 hr4 rfl (by decide) rfl rfl rfl (Nat.le_of_ble_eq_true rfl) (fun _ _ => rfl) rfl ?_
  show SW sc m_X9_writeText _ _ _ 8 [some (.ref r0), none, none] [.int v4] g4 P
  refine sw_pop dX9_writeText_8 (fun _ _ => rfl) ?_
  refine sw_aload_n dX9_writeText_9 rfl ?_
  refine sw_getf dX9_writeText_10 lf_X9_19 hc7 hv7 ?_
  refine sw_ldcw (t := 0) dX9_writeText_13 sr_X9_257 rfl ?_
  refine sw_aload_n dX9_writeText_16 rfl ?_
  refine sw_getf dX9_writeText_17 lf_X9_26 hc10 hv10 ?_
  refine sw_getf dX9_writeText_20 lf_X9_110 hc11 hv11 ?_
  refine sw_iconst (v := (-1)) dX9_writeText_23 (by decide) ?_
  refine sw_cV (M := m_X9_writeText) dX9_writeText_24 lv_X9_259 hm13 hr13 rfl (by decide) rfl rfl rfl (Nat.le_of_ble_eq_true rfl) (fun _ _ => rfl) rfl ?_
  show SW sc m_X9_writeText _ _ _ 27 [some (.ref r0), none, none] [] g13 P
  refine sw_iconst (v := 0) dX9_writeText_27 (by decide) ?_
  refine sw_istore_n dX9_writeText_28 (by decide) rfl ?_
  show SW sc m_X9_writeText _ _ _ 29 [some (.ref r0), some (.int 0), none] [] g13 P
  exact (k)
theorem b_X9_writeText_29 {r0 : Nat} {l1 : Int32} {fs3 : List Value} {a3 : Nat} {fs4 : List Value} {x4 : Int32} (hc3 : (h)[r0]? = some (9, fs3)) (hv3 : fs3[2]? = some (.ref a3)) (hc4 : (h)[a3]? = some (3, fs4)) (hv4 : fs4[2]? = some (.int x4)) (kt : x4 ≤ l1 → SW sc m_X9_writeText d rc rs 91 [some (.ref r0), none, none] [] h P) (kf : ¬ (x4 ≤ l1) → SW sc m_X9_writeText d rc rs 40 [some (.ref r0), some (.int l1), none] [] h P) : SW sc m_X9_writeText d rc rs 29 [some (.ref r0), some (.int l1), none] [] h P := by
  refine sw_iload_n dX9_writeText_29 rfl ?_
  refine sw_aload_n dX9_writeText_30 rfl ?_
  refine sw_getf dX9_writeText_31 lf_X9_26 hc3 hv3 ?_
  refine sw_getf dX9_writeText_34 lf_X9_110 hc4 hv4 ?_
  exact sw_icmp_ge dX9_writeText_37 (by decide) (fun q => (sw_fg [false, true, false] rfl (kt q))) (fun q => (kf q))
theorem b_X9_writeText_40 {r0 : Nat} {l1 : Int32} (k : SW sc m_X9_writeText d rc rs 44 [some (.ref r0), some (.int l1), some (.int (l1 + 1))] [] h P) : SW sc m_X9_writeText d rc rs 40 [some (.ref r0), some (.int l1), none] [] h P := by
  refine sw_iload_n dX9_writeText_40 rfl ?_
  refine sw_iconst (v := 1) dX9_writeText_41 (by decide) ?_
  refine sw_iadd dX9_writeText_42 ?_
  refine sw_istore_n dX9_writeText_43 (by decide) rfl ?_
  show SW sc m_X9_writeText _ _ _ 44 [some (.ref r0), some (.int l1), some (.int (l1 + 1))] [] h P
  exact (k)
theorem b_X9_writeText_44 {r0 : Nat} {l1 : Int32} {l2 : Int32} {fs3 : List Value} {a3 : Nat} {fs4 : List Value} {x4 : Int32} (hc3 : (h)[r0]? = some (9, fs3)) (hv3 : fs3[2]? = some (.ref a3)) (hc4 : (h)[a3]? = some (3, fs4)) (hv4 : fs4[2]? = some (.int x4)) (kt : x4 ≤ l2 → SW sc m_X9_writeText d rc rs 85 [some (.ref r0), some (.int l1), none] [] h P) (kf : ¬ (x4 ≤ l2) → SW sc m_X9_writeText d rc rs 55 [some (.ref r0), some (.int l1), some (.int l2)] [] h P) : SW sc m_X9_writeText d rc rs 44 [some (.ref r0), some (.int l1), some (.int l2)] [] h P := by
  refine sw_iload_n dX9_writeText_44 rfl ?_
  refine sw_aload_n dX9_writeText_45 rfl ?_
  refine sw_getf dX9_writeText_46 lf_X9_26 hc3 hv3 ?_
  refine sw_getf dX9_writeText_49 lf_X9_110 hc4 hv4 ?_
  exact sw_icmp_ge dX9_writeText_52 (by decide) (fun q => (sw_fg [false, false, true] rfl (kt q))) (fun q => (kf q))
theorem b_X9_writeText_55 {r0 : Nat} {l1 : Int32} {l2 : Int32} {fs2 : List Value} {a2 : Nat} {v5 : Int32} {g5 : ab_H} {fs5 : List Value} (hc2 : (h)[r0]? = some (9, fs2)) (hv2 : fs2[2]? = some (.ref a2)) (hr5 : (h)[a2]? = some (3, fs5)) (hm5 : MSE m_X3_hasEdge d [.ref a2, .int l1, .int l2] h (some (.int v5)) g5) (kt : v5 = 0 → SW sc m_X9_writeText (d + 1) rc rs 79 [some (.ref r0), some (.int l1), some (.int l2)] [] g5 P) (kf : ¬ (v5 = 0) → SW sc m_X9_writeText (d + 1) rc rs 67 [some (.ref r0), some (.int l1), some (.int l2)] [] g5 P) : SW sc m_X9_writeText (d + 1) rc rs 55 [some (.ref r0), some (.int l1), some (.int l2)] [] h P := by
  refine sw_aload_n dX9_writeText_55 rfl ?_
  refine sw_getf dX9_writeText_56 lf_X9_26 hc2 hv2 ?_
  refine sw_iload_n dX9_writeText_59 rfl ?_
  refine sw_iload_n dX9_writeText_60 rfl ?_
  refine sw_cV (M := m_X9_writeText) dX9_writeText_61 lv_X9_263 hm5 hr5 rfl (by decide) rfl rfl rfl (Nat.le_of_ble_eq_true rfl) (fun _ _ => rfl) rfl ?_
  show SW sc m_X9_writeText _ _ _ 64 [some (.ref r0), some (.int l1), some (.int l2)] [.int v5] g5 P
  exact sw_if_eq dX9_writeText_64 (by decide) (fun q => (kt q)) (fun q => (kf q))
theorem b_X9_writeText_67 {r0 : Nat} {l1 : Int32} {l2 : Int32} {fs2 : List Value} {a2 : Nat} {g6 : ab_H} {fs6 : List Value} (hc2 : (h)[r0]? = some (9, fs2)) (hv2 : fs2[1]? = some (.ref a2)) (hr6 : (h)[a2]? = some (0, fs6)) (hm6 : MSE m_X0_putStatement d [.ref a2, .retAddr 1, .int l1, .int l2] h none g6) (k : SW sc m_X9_writeText (d + 1) rc rs 79 [some (.ref r0), some (.int l1), some (.int l2)] [] g6 P) : SW sc m_X9_writeText (d + 1) rc rs 67 [some (.ref r0), some (.int l1), some (.int l2)] [] h P := by
  refine sw_aload_n dX9_writeText_67 rfl ?_
  refine sw_getf dX9_writeText_68 lf_X9_19 hc2 hv2 ?_
  refine sw_ldcw (t := 1) dX9_writeText_71 sr_X9_266 rfl ?_
  refine sw_iload_n dX9_writeText_74 rfl ?_
  refine sw_iload_n dX9_writeText_75 rfl ?_
  refine sw_cV (M := m_X9_writeText) dX9_writeText_76 lv_X9_259 hm6 hr6 rfl (by decide) rfl rfl rfl (Nat.le_of_ble_eq_true rfl) (fun _ _ => rfl) rfl ?_
  show SW sc m_X9_writeText _ _ _ 79 [some (.ref r0), some (.int l1), some (.int l2)] [] g6 P
  exact (k)
theorem b_X9_writeText_79 {r0 : Nat} {l1 : Int32} {l2 : Int32} (k : SW sc m_X9_writeText d rc rs 44 [some (.ref r0), some (.int l1), some (.int (l2 + 1))] [] h P) : SW sc m_X9_writeText d rc rs 79 [some (.ref r0), some (.int l1), some (.int l2)] [] h P := by
  refine sw_iinc (v := l2 + 1) dX9_writeText_79 rfl rfl (by decide) rfl ?_
  show SW sc m_X9_writeText _ _ _ 82 [some (.ref r0), some (.int l1), some (.int (l2 + 1))] [] h P
  exact sw_goto dX9_writeText_82 (by decide) (k)
theorem b_X9_writeText_85 {r0 : Nat} {l1 : Int32} (k : SW sc m_X9_writeText d rc rs 29 [some (.ref r0), some (.int (l1 + 1)), none] [] h P) : SW sc m_X9_writeText d rc rs 85 [some (.ref r0), some (.int l1), none] [] h P := by
  refine sw_iinc (v := l1 + 1) dX9_writeText_85 rfl rfl (by decide) rfl ?_
  show SW sc m_X9_writeText _ _ _ 88 [some (.ref r0), some (.int (l1 + 1)), none] [] h P
  exact sw_goto dX9_writeText_88 (by decide) (k)
theorem b_X9_writeText_91 {r0 : Nat} (k : SW sc m_X9_writeText d rc rs 93 [some (.ref r0), some (.int 0), none] [] h P) : SW sc m_X9_writeText d rc rs 91 [some (.ref r0), none, none] [] h P := by
  refine sw_iconst (v := 0) dX9_writeText_91 (by decide) ?_
  refine sw_istore_n dX9_writeText_92 (by decide) rfl ?_
  show SW sc m_X9_writeText _ _ _ 93 [some (.ref r0), some (.int 0), none] [] h P
  exact (k)
theorem b_X9_writeText_93 {r0 : Nat} {l1 : Int32} {fs3 : List Value} {a3 : Nat} {fs4 : List Value} {x4 : Int32} (hc3 : (h)[r0]? = some (9, fs3)) (hv3 : fs3[2]? = some (.ref a3)) (hc4 : (h)[a3]? = some (3, fs4)) (hv4 : fs4[2]? = some (.int x4)) (kt : x4 ≤ l1 → SW sc m_X9_writeText d rc rs 141 [some (.ref r0), none, none] [] h P) (kf : ¬ (x4 ≤ l1) → SW sc m_X9_writeText d rc rs 104 [some (.ref r0), some (.int l1), none] [] h P) : SW sc m_X9_writeText d rc rs 93 [some (.ref r0), some (.int l1), none] [] h P := by
  refine sw_iload_n dX9_writeText_93 rfl ?_
  refine sw_aload_n dX9_writeText_94 rfl ?_
  refine sw_getf dX9_writeText_95 lf_X9_26 hc3 hv3 ?_
  refine sw_getf dX9_writeText_98 lf_X9_110 hc4 hv4 ?_
  exact sw_icmp_ge dX9_writeText_101 (by decide) (fun q => (sw_fg [false, true, false] rfl (kt q))) (fun q => (kf q))
theorem b_X9_writeText_104 {r0 : Nat} {l1 : Int32} {fs2 : List Value} {a2 : Nat} {v4 : Int32} {g4 : ab_H} {fs4 : List Value} (hc2 : (h)[r0]? = some (9, fs2)) (hv2 : fs2[2]? = some (.ref a2)) (hr4 : (h)[a2]? = some (3, fs4)) (hm4 : MSE m_X3_weightOf d [.ref a2, .int l1] h (some (.int v4)) g4) (kt : v4 = 1 → SW sc m_X9_writeText (d + 1) rc rs 135 [some (.ref r0), some (.int l1), none] [] g4 P) (kf : ¬ (v4 = 1) → SW sc m_X9_writeText (d + 1) rc rs 116 [some (.ref r0), some (.int l1), none] [] g4 P) : SW sc m_X9_writeText (d + 1) rc rs 104 [some (.ref r0), some (.int l1), none] [] h P := by
  refine sw_aload_n dX9_writeText_104 rfl ?_
  refine sw_getf dX9_writeText_105 lf_X9_26 hc2 hv2 ?_
  refine sw_iload_n dX9_writeText_108 rfl ?_
  refine sw_cV (M := m_X9_writeText) dX9_writeText_109 lv_X9_152 hm4 hr4 rfl (by decide) rfl rfl rfl (Nat.le_of_ble_eq_true rfl) (fun _ _ => rfl) rfl ?_
  show SW sc m_X9_writeText _ _ _ 112 [some (.ref r0), some (.int l1), none] [.int v4] g4 P
  refine sw_iconst (v := 1) dX9_writeText_112 (by decide) ?_
  exact sw_icmp_eq dX9_writeText_113 (by decide) (fun q => (kt q)) (fun q => (kf q))
theorem b_X9_writeText_116 {r0 : Nat} {l1 : Int32} {fs2 : List Value} {a2 : Nat} {fs6 : List Value} {a6 : Nat} {v8 : Int32} {g8 : ab_H} {fs8 : List Value} {g9 : ab_H} {fs9 : List Value} (hc2 : (h)[r0]? = some (9, fs2)) (hv2 : fs2[1]? = some (.ref a2)) (hc6 : (h)[r0]? = some (9, fs6)) (hv6 : fs6[2]? = some (.ref a6)) (hr8 : (h)[a6]? = some (3, fs8)) (hm8 : MSE m_X3_weightOf d [.ref a6, .int l1] h (some (.int v8)) g8) (hr9 : (g8)[a2]? = some (0, fs9)) (hm9 : MSE m_X0_putStatement d [.ref a2, .retAddr 5, .int l1, .int v8] g8 none g9) (k : SW sc m_X9_writeText (d + 1) rc rs 135 [some (.ref r0), some (.int l1), none] [] g9 P) : SW sc m_X9_writeText (d + 1) rc rs 116 [some (.ref r0), some (.int l1), none] [] h P := by
  refine sw_aload_n dX9_writeText_116 rfl ?_
  refine sw_getf dX9_writeText_117 lf_X9_19 hc2 hv2 ?_
  refine sw_ldcw (t := 5) dX9_writeText_120 sr_X9_268 rfl ?_
  refine sw_iload_n dX9_writeText_123 rfl ?_
  refine sw_aload_n dX9_writeText_124 rfl ?_
  refine sw_getf dX9_writeText_125 lf_X9_26 hc6 hv6 ?_
  refine sw_iload_n dX9_writeText_128 rfl ?_
  refine sw_cVt (M := m_X9_writeText) dX9_writeText_129 lv_X9_152 hm8 hr8 rfl (by decide) rfl rfl rfl (Nat.le_of_ble_eq_true rfl) (fun σ τ hτ => by show [1, (τ 5).category, 1] = _; rw [hτ 5 (by decide)]; rfl) rfl ?_
  show SW sc m_X9_writeText _ _ _ 132 [some (.ref r0), some (.int l1), none] [.int v8, .int l1, .retAddr 5, .ref a2] g8 P
  refine sw_cV (M := m_X9_writeText) dX9_writeText_132 lv_X9_259 hm9 hr9 rfl (by decide) rfl rfl rfl (Nat.le_of_ble_eq_true rfl) (fun _ _ => rfl) rfl ?_
  show SW sc m_X9_writeText _ _ _ 135 [some (.ref r0), some (.int l1), none] [] g9 P
  exact (k)
theorem b_X9_writeText_135 {r0 : Nat} {l1 : Int32} (k : SW sc m_X9_writeText d rc rs 93 [some (.ref r0), some (.int (l1 + 1)), none] [] h P) : SW sc m_X9_writeText d rc rs 135 [some (.ref r0), some (.int l1), none] [] h P := by
  refine sw_iinc (v := l1 + 1) dX9_writeText_135 rfl rfl (by decide) rfl ?_
  show SW sc m_X9_writeText _ _ _ 138 [some (.ref r0), some (.int (l1 + 1)), none] [] h P
  exact sw_goto dX9_writeText_138 (by decide) (k)
theorem b_X9_writeText_141 {r0 : Nat} {fs2 : List Value} {a2 : Nat} {fs3 : List Value} {x3 : Int32} (hc2 : (h)[r0]? = some (9, fs2)) (hv2 : fs2[1]? = some (.ref a2)) (hc3 : (h)[a2]? = some (0, fs3)) (hv3 : fs3[1]? = some (.int x3)) (hP : P (.inl (some (.int x3))) h) : SW sc m_X9_writeText d rc rs 141 [some (.ref r0), none, none] [] h P := by
  refine sw_aload_n dX9_writeText_141 rfl ?_
  refine sw_getf dX9_writeText_142 lf_X9_19 hc2 hv2 ?_
  refine sw_getf dX9_writeText_145 lf_X9_75 hc3 hv3 ?_
  exact sw_ret (v := (some (.int x3))) dX9_writeText_148 rt_i hP
theorem b_X9_outputByte_0 {r0 : Nat} {l1 : Int32} (kt : l1 < 0 → SW sc m_X9_outputByte d rc rs 15 [none, none] [] h P) (kf : ¬ (l1 < 0) → SW sc m_X9_outputByte d rc rs 4 [some (.ref r0), some (.int l1)] [] h P) : SW sc m_X9_outputByte d rc rs 0 [some (.ref r0), some (.int l1)] [] h P := by
  refine sw_iload_n dX9_outputByte_0 rfl ?_
  exact sw_if_lt dX9_outputByte_1 (by decide) (fun q => (sw_fg [true, true] rfl (kt q))) (fun q => (kf q))
theorem b_X9_outputByte_4 {r0 : Nat} {l1 : Int32} {fs3 : List Value} {a3 : Nat} {fs4 : List Value} {x4 : Int32} (hc3 : (h)[r0]? = some (9, fs3)) (hv3 : fs3[1]? = some (.ref a3)) (hc4 : (h)[a3]? = some (0, fs4)) (hv4 : fs4[1]? = some (.int x4)) (kt : l1 < x4 → SW sc m_X9_outputByte d rc rs 26 [some (.ref r0), some (.int l1)] [] h P) (kf : ¬ (l1 < x4) → SW sc m_X9_outputByte d rc rs 15 [none, none] [] h P) : SW sc m_X9_outputByte d rc rs 4 [some (.ref r0), some (.int l1)] [] h P := by
  refine sw_iload_n dX9_outputByte_4 rfl ?_
  refine sw_aload_n dX9_outputByte_5 rfl ?_
  refine sw_getf dX9_outputByte_6 lf_X9_19 hc3 hv3 ?_
  refine sw_getf dX9_outputByte_9 lf_X9_75 hc4 hv4 ?_
  exact sw_icmp_lt dX9_outputByte_12 (by decide) (fun q => (kt q)) (fun q => (sw_fg [true, true] rfl (kf q)))
theorem b_X9_outputByte_15  (hP : P (.inr 4) h) : SW sc m_X9_outputByte d (rc + 1) (rs + 6) 15 [none, none] [] h P := by
  exact sw_throwNW (M := m_X9_outputByte) dX9_outputByte_15 dX9_outputByte_18 dX9_outputByte_19 dX9_outputByte_22 dX9_outputByte_25 lt_X9_4 sr_X9_270 (Nat.le_of_ble_eq_true rfl) (fun _ _ => rfl) (st_out rfl hP)
theorem b_X9_outputByte_26 {r0 : Nat} {l1 : Int32} {fs2 : List Value} {a2 : Nat} {v4 : Int32} {g4 : ab_H} {fs4 : List Value} (hc2 : (h)[r0]? = some (9, fs2)) (hv2 : fs2[1]? = some (.ref a2)) (hr4 : (h)[a2]? = some (0, fs4)) (hm4 : MSE m_X0_at d [.ref a2, .int l1] h (some (.int v4)) g4) (hP : P (.inl (some (.int v4))) g4) : SW sc m_X9_outputByte (d + 1) rc rs 26 [some (.ref r0), some (.int l1)] [] h P := by
  refine sw_aload_n dX9_outputByte_26 rfl ?_
  refine sw_getf dX9_outputByte_27 lf_X9_19 hc2 hv2 ?_
  refine sw_iload_n dX9_outputByte_30 rfl ?_
  refine sw_cV (M := m_X9_outputByte) dX9_outputByte_31 lv_X9_272 hm4 hr4 rfl (by decide) rfl rfl rfl (Nat.le_of_ble_eq_true rfl) (fun _ _ => rfl) rfl ?_
  show SW sc m_X9_outputByte _ _ _ 34 [some (.ref r0), some (.int l1)] [.int v4] g4 P
  exact sw_ret (v := (some (.int v4))) dX9_outputByte_34 rt_i hP
theorem b_X9_symmetries_0 {r0 : Nat} {l1 : Int32} {fs2 : List Value} {a2 : Nat} {fs4 : List Value} {a4 : Nat} {v7 : Int32} {g7 : ab_H} {fs7 : List Value} {v8 : Int32} {g8 : ab_H} {fs8 : List Value} (hc2 : (h)[r0]? = some (9, fs2)) (hv2 : fs2[5]? = some (.ref a2)) (hc4 : (h)[r0]? = some (9, fs4)) (hv4 : fs4[2]? = some (.ref a4)) (hr7 : (h)[r0]? = some (9, fs7)) (hm7 : MSE m_X9_neededComponent d [.ref r0, .int l1] h (some (.int v7)) g7) (hr8 : (g7)[a2]? = some (8, fs8)) (hm8 : MSE m_X8_symmetriesOf d [.ref a2, .ref a4, .int v7] g7 (some (.int v8)) g8) (hP : P (.inl (some (.int v8))) g8) : SW sc m_X9_symmetries (d + 1) rc rs 0 [some (.ref r0), some (.int l1)] [] h P := by
  refine sw_aload_n dX9_symmetries_0 rfl ?_
  refine sw_getf dX9_symmetries_1 lf_X9_43 hc2 hv2 ?_
  refine sw_aload_n dX9_symmetries_4 rfl ?_
  refine sw_getf dX9_symmetries_5 lf_X9_26 hc4 hv4 ?_
  refine sw_aload_n dX9_symmetries_8 rfl ?_
  refine sw_iload_n dX9_symmetries_9 rfl ?_
  refine sw_cV (M := m_X9_symmetries) dX9_symmetries_10 lv_X9_185 hm7 hr7 rfl (by decide) rfl rfl rfl (Nat.le_of_ble_eq_true rfl) (fun _ _ => rfl) rfl ?_
  show SW sc m_X9_symmetries _ _ _ 13 [some (.ref r0), some (.int l1)] [.int v7, .ref a4, .ref a2] g7 P
  refine sw_cV (M := m_X9_symmetries) dX9_symmetries_13 lv_X9_275 hm8 hr8 rfl (by decide) rfl rfl rfl (Nat.le_of_ble_eq_true rfl) (fun _ _ => rfl) rfl ?_
  show SW sc m_X9_symmetries _ _ _ 16 [some (.ref r0), some (.int l1)] [.int v8] g8 P
  exact sw_ret (v := (some (.int v8))) dX9_symmetries_16 rt_i hP
theorem bx_X9_symmetries_0_10 {r0 : Nat} {l1 : Int32} {fs2 : List Value} {a2 : Nat} {fs4 : List Value} {a4 : Nat} {E : Nat} {g7 : ab_H} {fs7 : List Value} (hc2 : (h)[r0]? = some (9, fs2)) (hv2 : fs2[5]? = some (.ref a2)) (hc4 : (h)[r0]? = some (9, fs4)) (hv4 : fs4[2]? = some (.ref a4)) (hr7 : (h)[r0]? = some (9, fs7)) (hm7 : MSX m_X9_neededComponent d [.ref r0, .int l1] h E g7) (hx : ST sc m_X9_symmetries (d + 1) rc rs 10 [some (.ref r0), some (.int l1)] g7 E P) : SW sc m_X9_symmetries (d + 1) (rc + 1) (rs + 6) 0 [some (.ref r0), some (.int l1)] [] h P := by
  refine sw_aload_n dX9_symmetries_0 rfl ?_
  refine sw_getf dX9_symmetries_1 lf_X9_43 hc2 hv2 ?_
  refine sw_aload_n dX9_symmetries_4 rfl ?_
  refine sw_getf dX9_symmetries_5 lf_X9_26 hc4 hv4 ?_
  refine sw_aload_n dX9_symmetries_8 rfl ?_
  refine sw_iload_n dX9_symmetries_9 rfl ?_
  exact sw_xV (M := m_X9_symmetries) dX9_symmetries_10 lv_X9_185 hm7 hr7 rfl (by decide) rfl rfl rfl (Nat.le_of_ble_eq_true rfl) (fun _ _ => rfl) rfl hx
theorem b_X9_labellings_0 {r0 : Nat} {l1 : Int32} {v3 : Int32} {g3 : ab_H} {fs3 : List Value} {v6 : Int32} {g6 : ab_H} {v7 : Int32} {g7 : ab_H} {fs9 : List Value} {a9 : Nat} {fs11 : List Value} {a11 : Nat} {v13 : Int32} {g13 : ab_H} {fs13 : List Value} {v14 : Int32} {g14 : ab_H} (hr3 : (h)[r0]? = some (9, fs3)) (hm3 : MSE m_X9_neededComponent d [.ref r0, .int l1] h (some (.int v3)) g3) (hm6 : MSE m_J6_bitCount_0f7a4 d [.int v3] g3 (some (.int v6)) g6) (hm7 : MSE m_X9_factorial d [.int v6] g6 (some (.int v7)) g7) (hc9 : (g7)[r0]? = some (9, fs9)) (hv9 : fs9[5]? = some (.ref a9)) (hc11 : (g7)[r0]? = some (9, fs11)) (hv11 : fs11[2]? = some (.ref a11)) (hr13 : (g7)[a9]? = some (8, fs13)) (hm13 : MSE m_X8_symmetriesOf d [.ref a9, .ref a11, .int v3] g7 (some (.int v13)) g13) (hm14 : MSE m_X9_quotient d [.int v7, .int v13] g13 (some (.int v14)) g14) (hP : P (.inl (some (.int v14))) g14) : SW sc m_X9_labellings (d + 1) rc rs 0 [some (.ref r0), some (.int l1), none] [] h P := by
  refine sw_aload_n dX9_labellings_0 rfl ?_
  refine sw_iload_n dX9_labellings_1 rfl ?_
  refine sw_cV (M := m_X9_labellings) dX9_labellings_2 lv_X9_185 hm3 hr3 rfl (by decide) rfl rfl rfl (Nat.le_of_ble_eq_true rfl) (fun _ _ => rfl) rfl ?_
  show SW sc m_X9_labellings _ _ _ 5 [some (.ref r0), some (.int l1), none] [.int v3] g3 P
  refine sw_istore_n dX9_labellings_5 (by decide) rfl ?_
  show SW sc m_X9_labellings _ _ _ 6 [some (.ref r0), some (.int l1), some (.int v3)] [] g3 P
  refine sw_iload_n dX9_labellings_6 rfl ?_
  refine sw_cS (M := m_X9_labellings) dX9_labellings_7 ls_X9_161 hm6 rfl rfl (Nat.le_of_ble_eq_true rfl) (fun _ _ => rfl) rfl ?_
  show SW sc m_X9_labellings _ _ _ 10 [some (.ref r0), some (.int l1), some (.int v3)] [.int v6] g6 P
  refine sw_cS (M := m_X9_labellings) dX9_labellings_10 ls_X9_242 hm7 rfl rfl (Nat.le_of_ble_eq_true rfl) (fun _ _ => rfl) rfl ?_
  show SW sc m_X9_labellings _ _ _ 13 [some (.ref r0), some (.int l1), some (.int v3)] [.int v7] g7 P
  refine sw_aload_n dX9_labellings_13 rfl ?_
  refine sw_getf dX9_labellings_14 lf_X9_43 hc9 hv9 ?_
  refine sw_aload_n dX9_labellings_17 rfl ?_
  refine sw_getf dX9_labellings_18 lf_X9_26 hc11 hv11 ?_
  refine sw_iload_n dX9_labellings_21 rfl ?_
  refine sw_cV (M := m_X9_labellings) dX9_labellings_22 lv_X9_275 hm13 hr13 rfl (by decide) rfl rfl rfl (Nat.le_of_ble_eq_true rfl) (fun _ _ => rfl) rfl ?_
  show SW sc m_X9_labellings _ _ _ 25 [some (.ref r0), some (.int l1), some (.int v3)] [.int v13, .int v7] g13 P
  refine sw_cS (M := m_X9_labellings) dX9_labellings_25 ls_X9_245 hm14 rfl rfl (Nat.le_of_ble_eq_true rfl) (fun _ _ => rfl) rfl ?_
  show SW sc m_X9_labellings _ _ _ 28 [some (.ref r0), some (.int l1), some (.int v3)] [.int v14] g14 P
  exact sw_ret (v := (some (.int v14))) dX9_labellings_28 rt_i hP
theorem bx_X9_labellings_0_2 {r0 : Nat} {l1 : Int32} {E : Nat} {g3 : ab_H} {fs3 : List Value} (hr3 : (h)[r0]? = some (9, fs3)) (hm3 : MSX m_X9_neededComponent d [.ref r0, .int l1] h E g3) (hx : ST sc m_X9_labellings (d + 1) rc rs 2 [some (.ref r0), some (.int l1), none] g3 E P) : SW sc m_X9_labellings (d + 1) (rc + 1) (rs + 6) 0 [some (.ref r0), some (.int l1), none] [] h P := by
  refine sw_aload_n dX9_labellings_0 rfl ?_
  refine sw_iload_n dX9_labellings_1 rfl ?_
  exact sw_xV (M := m_X9_labellings) dX9_labellings_2 lv_X9_185 hm3 hr3 rfl (by decide) rfl rfl rfl (Nat.le_of_ble_eq_true rfl) (fun _ _ => rfl) rfl hx
theorem b_X9_withLeaves_0 {r0 : Nat} {l1 : Int32} {l2 : Int32} (kt : l1 < 1 → SW sc m_X9_withLeaves d rc rs 21 [none, none, none] [] h P) (kf : ¬ (l1 < 1) → SW sc m_X9_withLeaves d rc rs 5 [some (.ref r0), some (.int l1), some (.int l2)] [] h P) : SW sc m_X9_withLeaves d rc rs 0 [some (.ref r0), some (.int l1), some (.int l2)] [] h P := by
  refine sw_iload_n dX9_withLeaves_0 rfl ?_
  refine sw_iconst (v := 1) dX9_withLeaves_1 (by decide) ?_
  exact sw_icmp_lt dX9_withLeaves_2 (by decide) (fun q => (sw_fg [true, true, true] rfl (kt q))) (fun q => (kf q))
theorem b_X9_withLeaves_5 {r0 : Nat} {l1 : Int32} {l2 : Int32} (kt : 10 < l1 → SW sc m_X9_withLeaves d rc rs 21 [none, none, none] [] h P) (kf : ¬ (10 < l1) → SW sc m_X9_withLeaves d rc rs 11 [some (.ref r0), some (.int l1), some (.int l2)] [] h P) : SW sc m_X9_withLeaves d rc rs 5 [some (.ref r0), some (.int l1), some (.int l2)] [] h P := by
  refine sw_iload_n dX9_withLeaves_5 rfl ?_
  refine sw_bipush (v := 10) dX9_withLeaves_6 (by decide) ?_
  exact sw_icmp_gt dX9_withLeaves_8 (by decide) (fun q => (sw_fg [true, true, true] rfl (kt q))) (fun q => (kf q))
theorem b_X9_withLeaves_11 {r0 : Nat} {l1 : Int32} {l2 : Int32} (kt : l2 < 0 → SW sc m_X9_withLeaves d rc rs 21 [none, none, none] [] h P) (kf : ¬ (l2 < 0) → SW sc m_X9_withLeaves d rc rs 15 [some (.ref r0), some (.int l1), some (.int l2)] [] h P) : SW sc m_X9_withLeaves d rc rs 11 [some (.ref r0), some (.int l1), some (.int l2)] [] h P := by
  refine sw_iload_n dX9_withLeaves_11 rfl ?_
  exact sw_if_lt dX9_withLeaves_12 (by decide) (fun q => (sw_fg [true, true, true] rfl (kt q))) (fun q => (kf q))
theorem b_X9_withLeaves_15 {r0 : Nat} {l1 : Int32} {l2 : Int32} (kt : l2 ≤ 10 → SW sc m_X9_withLeaves d rc rs 32 [some (.ref r0), some (.int l1), some (.int l2)] [] h P) (kf : ¬ (l2 ≤ 10) → SW sc m_X9_withLeaves d rc rs 21 [none, none, none] [] h P) : SW sc m_X9_withLeaves d rc rs 15 [some (.ref r0), some (.int l1), some (.int l2)] [] h P := by
  refine sw_iload_n dX9_withLeaves_15 rfl ?_
  refine sw_bipush (v := 10) dX9_withLeaves_16 (by decide) ?_
  exact sw_icmp_le dX9_withLeaves_18 (by decide) (fun q => (kt q)) (fun q => (sw_fg [true, true, true] rfl (kf q)))
theorem b_X9_withLeaves_21  (hP : P (.inr 2) h) : SW sc m_X9_withLeaves d (rc + 1) (rs + 6) 21 [none, none, none] [] h P := by
  exact sw_throwW (M := m_X9_withLeaves) dX9_withLeaves_21 dX9_withLeaves_24 dX9_withLeaves_25 dX9_withLeaves_28 dX9_withLeaves_31 lt_X9_2 sr_X9_278 (Nat.le_of_ble_eq_true rfl) (fun _ _ => rfl) (st_out rfl hP)
theorem b_X9_withLeaves_32 {r0 : Nat} {l1 : Int32} {l2 : Int32} {fs2 : List Value} {a2 : Nat} {v5 : Int32} {g5 : ab_H} {fs5 : List Value} (hc2 : (h)[r0]? = some (9, fs2)) (hv2 : fs2[6]? = some (.ref a2)) (hr5 : (h)[a2]? = some (2, fs5)) (hm5 : MSE m_X2_treesWithLeaves d [.ref a2, .int l1, .int l2] h (some (.int v5)) g5) (hP : P (.inl (some (.int v5))) g5) : SW sc m_X9_withLeaves (d + 1) rc rs 32 [some (.ref r0), some (.int l1), some (.int l2)] [] h P := by
  refine sw_aload_n dX9_withLeaves_32 rfl ?_
  refine sw_getf dX9_withLeaves_33 lf_X9_50 hc2 hv2 ?_
  refine sw_iload_n dX9_withLeaves_36 rfl ?_
  refine sw_iload_n dX9_withLeaves_37 rfl ?_
  refine sw_cV (M := m_X9_withLeaves) dX9_withLeaves_38 lv_X9_280 hm5 hr5 rfl (by decide) rfl rfl rfl (Nat.le_of_ble_eq_true rfl) (fun _ _ => rfl) rfl ?_
  show SW sc m_X9_withLeaves _ _ _ 41 [some (.ref r0), some (.int l1), some (.int l2)] [.int v5] g5 P
  exact sw_ret (v := (some (.int v5))) dX9_withLeaves_41 rt_i hP
theorem b_X9_classes_0 {r0 : Nat} {l1 : Int32} {l2 : Int32} (kt : l1 < 1 → SW sc m_X9_classes d rc rs 11 [none, none, none] [] h P) (kf : ¬ (l1 < 1) → SW sc m_X9_classes d rc rs 5 [some (.ref r0), some (.int l1), some (.int l2)] [] h P) : SW sc m_X9_classes d rc rs 0 [some (.ref r0), some (.int l1), some (.int l2)] [] h P := by
  refine sw_iload_n dX9_classes_0 rfl ?_
  refine sw_iconst (v := 1) dX9_classes_1 (by decide) ?_
  exact sw_icmp_lt dX9_classes_2 (by decide) (fun q => (sw_fg [true, true, true] rfl (kt q))) (fun q => (kf q))
theorem b_X9_classes_5 {r0 : Nat} {l1 : Int32} {l2 : Int32} (kt : l1 ≤ 10 → SW sc m_X9_classes d rc rs 22 [some (.ref r0), some (.int l1), some (.int l2)] [] h P) (kf : ¬ (l1 ≤ 10) → SW sc m_X9_classes d rc rs 11 [none, none, none] [] h P) : SW sc m_X9_classes d rc rs 5 [some (.ref r0), some (.int l1), some (.int l2)] [] h P := by
  refine sw_iload_n dX9_classes_5 rfl ?_
  refine sw_bipush (v := 10) dX9_classes_6 (by decide) ?_
  exact sw_icmp_le dX9_classes_8 (by decide) (fun q => (kt q)) (fun q => (sw_fg [true, true, true] rfl (kf q)))
theorem b_X9_classes_11  (hP : P (.inr 2) h) : SW sc m_X9_classes d (rc + 1) (rs + 6) 11 [none, none, none] [] h P := by
  exact sw_throwW (M := m_X9_classes) dX9_classes_11 dX9_classes_14 dX9_classes_15 dX9_classes_18 dX9_classes_21 lt_X9_2 sr_X9_283 (Nat.le_of_ble_eq_true rfl) (fun _ _ => rfl) (st_out rfl hP)
theorem b_X9_classes_22 {r0 : Nat} {l1 : Int32} {l2 : Int32} (kt : l2 = 0 → SW sc m_X9_classes d rc rs 37 [some (.ref r0), some (.int l1), none] [] h P) (kf : ¬ (l2 = 0) → SW sc m_X9_classes d rc rs 26 [some (.ref r0), some (.int l1), none] [] h P) : SW sc m_X9_classes d rc rs 22 [some (.ref r0), some (.int l1), some (.int l2)] [] h P := by
  refine sw_iload_n dX9_classes_22 rfl ?_
  exact sw_if_eq dX9_classes_23 (by decide) (fun q => (sw_fg [false, false, true] rfl (kt q))) (fun q => (sw_fg [false, false, true] rfl (kf q)))
theorem b_X9_classes_26 {r0 : Nat} {l1 : Int32} {fs2 : List Value} {a2 : Nat} {v4 : Int32} {g4 : ab_H} {fs4 : List Value} (hc2 : (h)[r0]? = some (9, fs2)) (hv2 : fs2[6]? = some (.ref a2)) (hr4 : (h)[a2]? = some (2, fs4)) (hm4 : MSE m_X2_rootedClasses d [.ref a2, .int l1] h (some (.int v4)) g4) (k : SW sc m_X9_classes (d + 1) rc rs 45 [none, none, none] [.int v4] g4 P) : SW sc m_X9_classes (d + 1) rc rs 26 [some (.ref r0), some (.int l1), none] [] h P := by
  refine sw_aload_n dX9_classes_26 rfl ?_
  refine sw_getf dX9_classes_27 lf_X9_50 hc2 hv2 ?_
  refine sw_iload_n dX9_classes_30 rfl ?_
  refine sw_cV (M := m_X9_classes) dX9_classes_31 lv_X9_285 hm4 hr4 rfl (by decide) rfl rfl rfl (Nat.le_of_ble_eq_true rfl) (fun _ _ => rfl) rfl ?_
  show SW sc m_X9_classes _ _ _ 34 [some (.ref r0), some (.int l1), none] [.int v4] g4 P
  exact sw_goto dX9_classes_34 (by decide) (sw_fg [true, true, false] rfl (k))
theorem b_X9_classes_37 {r0 : Nat} {l1 : Int32} {fs2 : List Value} {a2 : Nat} {v4 : Int32} {g4 : ab_H} {fs4 : List Value} (hc2 : (h)[r0]? = some (9, fs2)) (hv2 : fs2[6]? = some (.ref a2)) (hr4 : (h)[a2]? = some (2, fs4)) (hm4 : MSE m_X2_freeClasses d [.ref a2, .int l1] h (some (.int v4)) g4) (k : SW sc m_X9_classes (d + 1) rc rs 45 [none, none, none] [.int v4] g4 P) : SW sc m_X9_classes (d + 1) rc rs 37 [some (.ref r0), some (.int l1), none] [] h P := by
  refine sw_aload_n dX9_classes_37 rfl ?_
  refine sw_getf dX9_classes_38 lf_X9_50 hc2 hv2 ?_
  refine sw_iload_n dX9_classes_41 rfl ?_
  refine sw_cV (M := m_X9_classes) dX9_classes_42 lv_X9_288 hm4 hr4 rfl (by decide) rfl rfl rfl (Nat.le_of_ble_eq_true rfl) (fun _ _ => rfl) rfl ?_
  show SW sc m_X9_classes _ _ _ 45 [some (.ref r0), some (.int l1), none] [.int v4] g4 P
  exact (sw_fg [true, true, false] rfl (k))
theorem b_X9_classes_45 {s0 : Int32} (hP : P (.inl (some (.int s0))) h) : SW sc m_X9_classes d rc rs 45 [none, none, none] [.int s0] h P := by
  exact sw_ret (v := (some (.int s0))) dX9_classes_45 rt_i hP
theorem b_X9_survey_0 {r0 : Nat} {l1 : Int32} {l2 : Int32} (kt : l1 < 1 → SW sc m_X9_survey d rc rs 20 [none, none, none] [] h P) (kf : ¬ (l1 < 1) → SW sc m_X9_survey d rc rs 5 [some (.ref r0), some (.int l1), some (.int l2)] [] h P) : SW sc m_X9_survey d rc rs 0 [some (.ref r0), some (.int l1), some (.int l2)] [] h P := by
  refine sw_iload_n dX9_survey_0 rfl ?_
  refine sw_iconst (v := 1) dX9_survey_1 (by decide) ?_
  exact sw_icmp_lt dX9_survey_2 (by decide) (fun q => (sw_fg [true, true, true] rfl (kt q))) (fun q => (kf q))
theorem b_X9_survey_5 {r0 : Nat} {l1 : Int32} {l2 : Int32} (kt : 6 < l1 → SW sc m_X9_survey d rc rs 20 [none, none, none] [] h P) (kf : ¬ (6 < l1) → SW sc m_X9_survey d rc rs 11 [some (.ref r0), some (.int l1), some (.int l2)] [] h P) : SW sc m_X9_survey d rc rs 5 [some (.ref r0), some (.int l1), some (.int l2)] [] h P := by
  refine sw_iload_n dX9_survey_5 rfl ?_
  refine sw_bipush (v := 6) dX9_survey_6 (by decide) ?_
  exact sw_icmp_gt dX9_survey_8 (by decide) (fun q => (sw_fg [true, true, true] rfl (kt q))) (fun q => (kf q))
theorem b_X9_survey_11 {r0 : Nat} {l1 : Int32} {l2 : Int32} (kt : l2 < 0 → SW sc m_X9_survey d rc rs 20 [none, none, none] [] h P) (kf : ¬ (l2 < 0) → SW sc m_X9_survey d rc rs 15 [some (.ref r0), some (.int l1), some (.int l2)] [] h P) : SW sc m_X9_survey d rc rs 11 [some (.ref r0), some (.int l1), some (.int l2)] [] h P := by
  refine sw_iload_n dX9_survey_11 rfl ?_
  exact sw_if_lt dX9_survey_12 (by decide) (fun q => (sw_fg [true, true, true] rfl (kt q))) (fun q => (kf q))
theorem b_X9_survey_15 {r0 : Nat} {l1 : Int32} {l2 : Int32} (kt : l2 < 3 → SW sc m_X9_survey d rc rs 31 [some (.ref r0), some (.int l1), some (.int l2)] [] h P) (kf : ¬ (l2 < 3) → SW sc m_X9_survey d rc rs 20 [none, none, none] [] h P) : SW sc m_X9_survey d rc rs 15 [some (.ref r0), some (.int l1), some (.int l2)] [] h P := by
  refine sw_iload_n dX9_survey_15 rfl ?_
  refine sw_iconst (v := 3) dX9_survey_16 (by decide) ?_
  exact sw_icmp_lt dX9_survey_17 (by decide) (fun q => (kt q)) (fun q => (sw_fg [true, true, true] rfl (kf q)))
theorem b_X9_survey_20  (hP : P (.inr 2) h) : SW sc m_X9_survey d (rc + 1) (rs + 6) 20 [none, none, none] [] h P := by
  exact sw_throwW (M := m_X9_survey) dX9_survey_20 dX9_survey_23 dX9_survey_24 dX9_survey_27 dX9_survey_30 lt_X9_2 sr_X9_291 (Nat.le_of_ble_eq_true rfl) (fun _ _ => rfl) (st_out rfl hP)
theorem b_X9_survey_31 {r0 : Nat} {l1 : Int32} {l2 : Int32} {fs2 : List Value} {a2 : Nat} {g4 : ab_H} {fs4 : List Value} {fs6 : List Value} {a6 : Nat} {v9 : Int32} {g9 : ab_H} {fs9 : List Value} (hc2 : (h)[r0]? = some (9, fs2)) (hv2 : fs2[7]? = some (.ref a2)) (hr4 : (h)[a2]? = some (7, fs4)) (hm4 : MSE m_X7_goThrough d [.ref a2, .int l1] h none g4) (hc6 : (g4)[r0]? = some (9, fs6)) (hv6 : fs6[7]? = some (.ref a6)) (hr9 : (g4)[a6]? = some (7, fs9)) (hm9 : MSE m_X7_answer d [.ref a6, .int l1, .int l2] g4 (some (.int v9)) g9) (hP : P (.inl (some (.int v9))) g9) : SW sc m_X9_survey (d + 1) rc rs 31 [some (.ref r0), some (.int l1), some (.int l2)] [] h P := by
  refine sw_aload_n dX9_survey_31 rfl ?_
  refine sw_getf dX9_survey_32 lf_X9_57 hc2 hv2 ?_
  refine sw_iload_n dX9_survey_35 rfl ?_
  refine sw_cV (M := m_X9_survey) dX9_survey_36 lv_X9_293 hm4 hr4 rfl (by decide) rfl rfl rfl (Nat.le_of_ble_eq_true rfl) (fun _ _ => rfl) rfl ?_
  show SW sc m_X9_survey _ _ _ 39 [some (.ref r0), some (.int l1), some (.int l2)] [] g4 P
  refine sw_aload_n dX9_survey_39 rfl ?_
  refine sw_getf dX9_survey_40 lf_X9_57 hc6 hv6 ?_
  refine sw_iload_n dX9_survey_43 rfl ?_
  refine sw_iload_n dX9_survey_44 rfl ?_
  refine sw_cV (M := m_X9_survey) dX9_survey_45 lv_X9_296 hm9 hr9 rfl (by decide) rfl rfl rfl (Nat.le_of_ble_eq_true rfl) (fun _ _ => rfl) rfl ?_
  show SW sc m_X9_survey _ _ _ 48 [some (.ref r0), some (.int l1), some (.int l2)] [.int v9] g9 P
  exact sw_ret (v := (some (.int v9))) dX9_survey_48 rt_i hP
theorem b_X9_link_0 {r0 : Nat} {l1 : Int32} {l2 : Int32} {g3 : ab_H} {fs3 : List Value} {g6 : ab_H} {fs6 : List Value} {v10 : Int32} {g10 : ab_H} {fs10 : List Value} (hr3 : (h)[r0]? = some (9, fs3)) (hm3 : MSE m_X9_needVertex d [.ref r0, .int l1] h none g3) (hr6 : (g3)[r0]? = some (9, fs6)) (hm6 : MSE m_X9_needVertex d [.ref r0, .int l2] g3 none g6) (hr10 : (g6)[r0]? = some (9, fs10)) (hm10 : MSE m_X9_reasonAgainstLink d [.ref r0, .int l1, .int l2] g6 (some (.int v10)) g10) (kt : v10 = 0 → SW sc m_X9_link (d + 1) rc rs 33 [some (.ref r0), some (.int l1), some (.int l2), none] [] g10 P) (kf : ¬ (v10 = 0) → SW sc m_X9_link (d + 1) rc rs 21 [some (.ref r0), none, none, some (.int v10)] [] g10 P) : SW sc m_X9_link (d + 1) rc rs 0 [some (.ref r0), some (.int l1), some (.int l2), none] [] h P := by
  refine sw_aload_n dX9_link_0 rfl ?_
  refine sw_iload_n dX9_link_1 rfl ?_
  refine sw_cV (M := m_X9_link) dX9_link_2 lv_X9_146 hm3 hr3 rfl (by decide) rfl rfl rfl (Nat.le_of_ble_eq_true rfl) (fun _ _ => rfl) rfl ?_
  show SW sc m_X9_link _ _ _ 5 [some (.ref r0), some (.int l1), some (.int l2), none] [] g3 P
  refine sw_aload_n dX9_link_5 rfl ?_
  refine sw_iload_n dX9_link_6 rfl ?_
  refine sw_cV (M := m_X9_link) dX9_link_7 lv_X9_146 hm6 hr6 rfl (by decide) rfl rfl rfl (Nat.le_of_ble_eq_true rfl) (fun _ _ => rfl) rfl ?_
  show SW sc m_X9_link _ _ _ 10 [some (.ref r0), some (.int l1), some (.int l2), none] [] g6 P
  refine sw_aload_n dX9_link_10 rfl ?_
  refine sw_iload_n dX9_link_11 rfl ?_
  refine sw_iload_n dX9_link_12 rfl ?_
  refine sw_cV (M := m_X9_link) dX9_link_13 lv_X9_299 hm10 hr10 rfl (by decide) rfl rfl rfl (Nat.le_of_ble_eq_true rfl) (fun _ _ => rfl) rfl ?_
  show SW sc m_X9_link _ _ _ 16 [some (.ref r0), some (.int l1), some (.int l2), none] [.int v10] g10 P
  refine sw_istore_n dX9_link_16 (by decide) rfl ?_
  show SW sc m_X9_link _ _ _ 17 [some (.ref r0), some (.int l1), some (.int l2), some (.int v10)] [] g10 P
  refine sw_iload_n dX9_link_17 rfl ?_
  exact sw_if_eq dX9_link_18 (by decide) (fun q => (sw_fg [false, false, false, true] rfl (kt q))) (fun q => (sw_fg [false, true, true, false] rfl (kf q)))
theorem bx_X9_link_0_2 {r0 : Nat} {l1 : Int32} {l2 : Int32} {E : Nat} {g3 : ab_H} {fs3 : List Value} (hr3 : (h)[r0]? = some (9, fs3)) (hm3 : MSX m_X9_needVertex d [.ref r0, .int l1] h E g3) (hx : ST sc m_X9_link (d + 1) rc rs 2 [some (.ref r0), some (.int l1), some (.int l2), none] g3 E P) : SW sc m_X9_link (d + 1) (rc + 1) (rs + 6) 0 [some (.ref r0), some (.int l1), some (.int l2), none] [] h P := by
  refine sw_aload_n dX9_link_0 rfl ?_
  refine sw_iload_n dX9_link_1 rfl ?_
  exact sw_xV (M := m_X9_link) dX9_link_2 lv_X9_146 hm3 hr3 rfl (by decide) rfl rfl rfl (Nat.le_of_ble_eq_true rfl) (fun _ _ => rfl) rfl hx
theorem bx_X9_link_0_7 {r0 : Nat} {l1 : Int32} {l2 : Int32} {g3 : ab_H} {fs3 : List Value} {E : Nat} {g6 : ab_H} {fs6 : List Value} (hr3 : (h)[r0]? = some (9, fs3)) (hm3 : MSE m_X9_needVertex d [.ref r0, .int l1] h none g3) (hr6 : (g3)[r0]? = some (9, fs6)) (hm6 : MSX m_X9_needVertex d [.ref r0, .int l2] g3 E g6) (hx : ST sc m_X9_link (d + 1) rc rs 7 [some (.ref r0), some (.int l1), some (.int l2), none] g6 E P) : SW sc m_X9_link (d + 1) (rc + 1) (rs + 6) 0 [some (.ref r0), some (.int l1), some (.int l2), none] [] h P := by
  refine sw_aload_n dX9_link_0 rfl ?_
  refine sw_iload_n dX9_link_1 rfl ?_
  refine sw_cV (M := m_X9_link) dX9_link_2 lv_X9_146 hm3 hr3 rfl (by decide) rfl rfl rfl (Nat.le_of_ble_eq_true rfl) (fun _ _ => rfl) rfl ?_
  show SW sc m_X9_link _ _ _ 5 [some (.ref r0), some (.int l1), some (.int l2), none] [] g3 P
  refine sw_aload_n dX9_link_5 rfl ?_
  refine sw_iload_n dX9_link_6 rfl ?_
  exact sw_xV (M := m_X9_link) dX9_link_7 lv_X9_146 hm6 hr6 rfl (by decide) rfl rfl rfl (Nat.le_of_ble_eq_true rfl) (fun _ _ => rfl) rfl hx
theorem b_X9_link_21 {r0 : Nat} {l3 : Int32} {fs2 : List Value} {a2 : Nat} {vs5 : List Value} {x5 : Int32} {vs8 : List Value} (hc2 : (h)[r0]? = some (9, fs2)) (hv2 : fs2[9]? = some (.ref a2)) (hc5 : (h)[a2]? = some (100, vs5)) (ho5 : ¬ (5 : Int32) < 0) (hi5 : vs5[(5 : Int32).toNatClampNeg]? = some (.int x5)) (hc8 : (h)[a2]? = some (100, vs8)) (ho8 : ¬ (5 : Int32) < 0) (hl8 : (5 : Int32).toNatClampNeg < vs8.length) (hP : P (.inl (some (.int l3))) ((h).set a2 (100, vs8.set (5 : Int32).toNatClampNeg (.int (x5 + 1))))) : SW sc m_X9_link d rc rs 21 [some (.ref r0), none, none, some (.int l3)] [] h P := by
  refine sw_aload_n dX9_link_21 rfl ?_
  refine sw_getf dX9_link_22 lf_X9_68 hc2 hv2 ?_
  refine sw_iconst (v := 5) dX9_link_25 (by decide) ?_
  refine sw_dup2 dX9_link_26 (fun _ _ => rfl) (fun _ _ => rfl) ?_
  refine sw_iald dX9_link_27 hc5 ho5 hi5 ?_
  refine sw_iconst (v := 1) dX9_link_28 (by decide) ?_
  refine sw_iadd dX9_link_29 ?_
  refine sw_iast dX9_link_30 hc8 ho8 hl8 ?_
  refine sw_iload_n dX9_link_31 rfl ?_
  exact sw_ret (v := (some (.int l3))) dX9_link_32 rt_i hP
theorem b_X9_link_33 {r0 : Nat} {l1 : Int32} {l2 : Int32} {fs2 : List Value} {a2 : Nat} {fs4 : List Value} {a4 : Nat} {v5 : Nat} {g5 : ab_H} {fs5 : List Value} {fs8 : List Value} {a8 : Nat} {g11 : ab_H} {fs11 : List Value} {fs13 : List Value} {a13 : Nat} {vs16 : List Value} {x16 : Int32} {vs19 : List Value} (hc2 : (h)[r0]? = some (9, fs2)) (hv2 : fs2[8]? = some (.ref a2)) (hc4 : (h)[r0]? = some (9, fs4)) (hv4 : fs4[2]? = some (.ref a4)) (hr5 : (h)[a2]? = some (5, fs5)) (hm5 : MSE m_X5_record d [.ref a2, .ref a4] h (some (.ref v5)) g5) (hc8 : (g5)[r0]? = some (9, fs8)) (hv8 : fs8[2]? = some (.ref a8)) (hr11 : (g5)[a8]? = some (3, fs11)) (hm11 : MSE m_X3_join d [.ref a8, .int l1, .int l2] g5 none g11) (hc13 : (g11)[r0]? = some (9, fs13)) (hv13 : fs13[9]? = some (.ref a13)) (hc16 : (g11)[a13]? = some (100, vs16)) (ho16 : ¬ (0 : Int32) < 0) (hi16 : vs16[(0 : Int32).toNatClampNeg]? = some (.int x16)) (hc19 : (g11)[a13]? = some (100, vs19)) (ho19 : ¬ (0 : Int32) < 0) (hl19 : (0 : Int32).toNatClampNeg < vs19.length) (hP : P (.inl (some (.int 0))) ((g11).set a13 (100, vs19.set (0 : Int32).toNatClampNeg (.int (x16 + 1))))) : SW sc m_X9_link (d + 1) rc rs 33 [some (.ref r0), some (.int l1), some (.int l2), none] [] h P := by
  refine sw_aload_n dX9_link_33 rfl ?_
  refine sw_getf dX9_link_34 lf_X9_64 hc2 hv2 ?_
  refine sw_aload_n dX9_link_37 rfl ?_
  refine sw_getf dX9_link_38 lf_X9_26 hc4 hv4 ?_
  refine sw_cV (M := m_X9_link) dX9_link_41 lv_X9_302 hm5 hr5 rfl (by decide) rfl rfl rfl (Nat.le_of_ble_eq_true rfl) (fun _ _ => rfl) rfl ?_
  show SW sc m_X9_link _ _ _ 44 [some (.ref r0), some (.int l1), some (.int l2), none] [.ref v5] g5 P
  refine sw_pop dX9_link_44 (fun _ _ => rfl) ?_
  refine sw_aload_n dX9_link_45 rfl ?_
  refine sw_getf dX9_link_46 lf_X9_26 hc8 hv8 ?_
  refine sw_iload_n dX9_link_49 rfl ?_
  refine sw_iload_n dX9_link_50 rfl ?_
  refine sw_cV (M := m_X9_link) dX9_link_51 lv_X9_306 hm11 hr11 rfl (by decide) rfl rfl rfl (Nat.le_of_ble_eq_true rfl) (fun _ _ => rfl) rfl ?_
  show SW sc m_X9_link _ _ _ 54 [some (.ref r0), some (.int l1), some (.int l2), none] [] g11 P
  refine sw_aload_n dX9_link_54 rfl ?_
  refine sw_getf dX9_link_55 lf_X9_68 hc13 hv13 ?_
  refine sw_iconst (v := 0) dX9_link_58 (by decide) ?_
  refine sw_dup2 dX9_link_59 (fun _ _ => rfl) (fun _ _ => rfl) ?_
  refine sw_iald dX9_link_60 hc16 ho16 hi16 ?_
  refine sw_iconst (v := 1) dX9_link_61 (by decide) ?_
  refine sw_iadd dX9_link_62 ?_
  refine sw_iast dX9_link_63 hc19 ho19 hl19 ?_
  refine sw_iconst (v := 0) dX9_link_64 (by decide) ?_
  exact sw_ret (v := (some (.int 0))) dX9_link_65 rt_i hP
theorem b_X9_cut_0 {r0 : Nat} {l1 : Int32} {l2 : Int32} {g3 : ab_H} {fs3 : List Value} {g6 : ab_H} {fs6 : List Value} {fs8 : List Value} {a8 : Nat} {v11 : Int32} {g11 : ab_H} {fs11 : List Value} (hr3 : (h)[r0]? = some (9, fs3)) (hm3 : MSE m_X9_needVertex d [.ref r0, .int l1] h none g3) (hr6 : (g3)[r0]? = some (9, fs6)) (hm6 : MSE m_X9_needVertex d [.ref r0, .int l2] g3 none g6) (hc8 : (g6)[r0]? = some (9, fs8)) (hv8 : fs8[2]? = some (.ref a8)) (hr11 : (g6)[a8]? = some (3, fs11)) (hm11 : MSE m_X3_hasEdge d [.ref a8, .int l1, .int l2] g6 (some (.int v11)) g11) (kt : ¬ v11 = 0 → SW sc m_X9_cut (d + 1) rc rs 35 [some (.ref r0), some (.int l1), some (.int l2)] [] g11 P) (kf : v11 = 0 → SW sc m_X9_cut (d + 1) rc rs 22 [some (.ref r0), none, none] [] g11 P) : SW sc m_X9_cut (d + 1) rc rs 0 [some (.ref r0), some (.int l1), some (.int l2)] [] h P := by
  refine sw_aload_n dX9_cut_0 rfl ?_
  refine sw_iload_n dX9_cut_1 rfl ?_
  refine sw_cV (M := m_X9_cut) dX9_cut_2 lv_X9_146 hm3 hr3 rfl (by decide) rfl rfl rfl (Nat.le_of_ble_eq_true rfl) (fun _ _ => rfl) rfl ?_
  show SW sc m_X9_cut _ _ _ 5 [some (.ref r0), some (.int l1), some (.int l2)] [] g3 P
  refine sw_aload_n dX9_cut_5 rfl ?_
  refine sw_iload_n dX9_cut_6 rfl ?_
  refine sw_cV (M := m_X9_cut) dX9_cut_7 lv_X9_146 hm6 hr6 rfl (by decide) rfl rfl rfl (Nat.le_of_ble_eq_true rfl) (fun _ _ => rfl) rfl ?_
  show SW sc m_X9_cut _ _ _ 10 [some (.ref r0), some (.int l1), some (.int l2)] [] g6 P
  refine sw_aload_n dX9_cut_10 rfl ?_
  refine sw_getf dX9_cut_11 lf_X9_26 hc8 hv8 ?_
  refine sw_iload_n dX9_cut_14 rfl ?_
  refine sw_iload_n dX9_cut_15 rfl ?_
  refine sw_cV (M := m_X9_cut) dX9_cut_16 lv_X9_263 hm11 hr11 rfl (by decide) rfl rfl rfl (Nat.le_of_ble_eq_true rfl) (fun _ _ => rfl) rfl ?_
  show SW sc m_X9_cut _ _ _ 19 [some (.ref r0), some (.int l1), some (.int l2)] [.int v11] g11 P
  exact sw_if_ne dX9_cut_19 (by decide) (fun q => (kt q)) (fun q => (sw_fg [false, true, true] rfl (kf q)))
theorem bx_X9_cut_0_2 {r0 : Nat} {l1 : Int32} {l2 : Int32} {E : Nat} {g3 : ab_H} {fs3 : List Value} (hr3 : (h)[r0]? = some (9, fs3)) (hm3 : MSX m_X9_needVertex d [.ref r0, .int l1] h E g3) (hx : ST sc m_X9_cut (d + 1) rc rs 2 [some (.ref r0), some (.int l1), some (.int l2)] g3 E P) : SW sc m_X9_cut (d + 1) (rc + 1) (rs + 6) 0 [some (.ref r0), some (.int l1), some (.int l2)] [] h P := by
  refine sw_aload_n dX9_cut_0 rfl ?_
  refine sw_iload_n dX9_cut_1 rfl ?_
  exact sw_xV (M := m_X9_cut) dX9_cut_2 lv_X9_146 hm3 hr3 rfl (by decide) rfl rfl rfl (Nat.le_of_ble_eq_true rfl) (fun _ _ => rfl) rfl hx
theorem bx_X9_cut_0_7 {r0 : Nat} {l1 : Int32} {l2 : Int32} {g3 : ab_H} {fs3 : List Value} {E : Nat} {g6 : ab_H} {fs6 : List Value} (hr3 : (h)[r0]? = some (9, fs3)) (hm3 : MSE m_X9_needVertex d [.ref r0, .int l1] h none g3) (hr6 : (g3)[r0]? = some (9, fs6)) (hm6 : MSX m_X9_needVertex d [.ref r0, .int l2] g3 E g6) (hx : ST sc m_X9_cut (d + 1) rc rs 7 [some (.ref r0), some (.int l1), some (.int l2)] g6 E P) : SW sc m_X9_cut (d + 1) (rc + 1) (rs + 6) 0 [some (.ref r0), some (.int l1), some (.int l2)] [] h P := by
  refine sw_aload_n dX9_cut_0 rfl ?_
  refine sw_iload_n dX9_cut_1 rfl ?_
  refine sw_cV (M := m_X9_cut) dX9_cut_2 lv_X9_146 hm3 hr3 rfl (by decide) rfl rfl rfl (Nat.le_of_ble_eq_true rfl) (fun _ _ => rfl) rfl ?_
  show SW sc m_X9_cut _ _ _ 5 [some (.ref r0), some (.int l1), some (.int l2)] [] g3 P
  refine sw_aload_n dX9_cut_5 rfl ?_
  refine sw_iload_n dX9_cut_6 rfl ?_
  exact sw_xV (M := m_X9_cut) dX9_cut_7 lv_X9_146 hm6 hr6 rfl (by decide) rfl rfl rfl (Nat.le_of_ble_eq_true rfl) (fun _ _ => rfl) rfl hx
theorem b_X9_cut_22 {r0 : Nat} {fs2 : List Value} {a2 : Nat} {vs5 : List Value} {x5 : Int32} {vs8 : List Value} (hc2 : (h)[r0]? = some (9, fs2)) (hv2 : fs2[9]? = some (.ref a2)) (hc5 : (h)[a2]? = some (100, vs5)) (ho5 : ¬ (6 : Int32) < 0) (hi5 : vs5[(6 : Int32).toNatClampNeg]? = some (.int x5)) (hc8 : (h)[a2]? = some (100, vs8)) (ho8 : ¬ (6 : Int32) < 0) (hl8 : (6 : Int32).toNatClampNeg < vs8.length) (hP : P (.inl (some (.int 0))) ((h).set a2 (100, vs8.set (6 : Int32).toNatClampNeg (.int (x5 + 1))))) : SW sc m_X9_cut d rc rs 22 [some (.ref r0), none, none] [] h P := by
  refine sw_aload_n dX9_cut_22 rfl ?_
  refine sw_getf dX9_cut_23 lf_X9_68 hc2 hv2 ?_
  refine sw_bipush (v := 6) dX9_cut_26 (by decide) ?_
  refine sw_dup2 dX9_cut_28 (fun _ _ => rfl) (fun _ _ => rfl) ?_
  refine sw_iald dX9_cut_29 hc5 ho5 hi5 ?_
  refine sw_iconst (v := 1) dX9_cut_30 (by decide) ?_
  refine sw_iadd dX9_cut_31 ?_
  refine sw_iast dX9_cut_32 hc8 ho8 hl8 ?_
  refine sw_iconst (v := 0) dX9_cut_33 (by decide) ?_
  exact sw_ret (v := (some (.int 0))) dX9_cut_34 (rt_n (by decide)) hP
theorem b_X9_cut_35 {r0 : Nat} {l1 : Int32} {l2 : Int32} {fs2 : List Value} {a2 : Nat} {fs4 : List Value} {a4 : Nat} {v5 : Nat} {g5 : ab_H} {fs5 : List Value} {fs8 : List Value} {a8 : Nat} {g11 : ab_H} {fs11 : List Value} {fs13 : List Value} {a13 : Nat} {vs16 : List Value} {x16 : Int32} {vs19 : List Value} (hc2 : (h)[r0]? = some (9, fs2)) (hv2 : fs2[8]? = some (.ref a2)) (hc4 : (h)[r0]? = some (9, fs4)) (hv4 : fs4[2]? = some (.ref a4)) (hr5 : (h)[a2]? = some (5, fs5)) (hm5 : MSE m_X5_record d [.ref a2, .ref a4] h (some (.ref v5)) g5) (hc8 : (g5)[r0]? = some (9, fs8)) (hv8 : fs8[2]? = some (.ref a8)) (hr11 : (g5)[a8]? = some (3, fs11)) (hm11 : MSE m_X3_part d [.ref a8, .int l1, .int l2] g5 none g11) (hc13 : (g11)[r0]? = some (9, fs13)) (hv13 : fs13[9]? = some (.ref a13)) (hc16 : (g11)[a13]? = some (100, vs16)) (ho16 : ¬ (1 : Int32) < 0) (hi16 : vs16[(1 : Int32).toNatClampNeg]? = some (.int x16)) (hc19 : (g11)[a13]? = some (100, vs19)) (ho19 : ¬ (1 : Int32) < 0) (hl19 : (1 : Int32).toNatClampNeg < vs19.length) (hP : P (.inl (some (.int 1))) ((g11).set a13 (100, vs19.set (1 : Int32).toNatClampNeg (.int (x16 + 1))))) : SW sc m_X9_cut (d + 1) rc rs 35 [some (.ref r0), some (.int l1), some (.int l2)] [] h P := by
  refine sw_aload_n dX9_cut_35 rfl ?_
  refine sw_getf dX9_cut_36 lf_X9_64 hc2 hv2 ?_
  refine sw_aload_n dX9_cut_39 rfl ?_
  refine sw_getf dX9_cut_40 lf_X9_26 hc4 hv4 ?_
  refine sw_cV (M := m_X9_cut) dX9_cut_43 lv_X9_302 hm5 hr5 rfl (by decide) rfl rfl rfl (Nat.le_of_ble_eq_true rfl) (fun _ _ => rfl) rfl ?_
  show SW sc m_X9_cut _ _ _ 46 [some (.ref r0), some (.int l1), some (.int l2)] [.ref v5] g5 P
  refine sw_pop dX9_cut_46 (fun _ _ => rfl) ?_
  refine sw_aload_n dX9_cut_47 rfl ?_
  refine sw_getf dX9_cut_48 lf_X9_26 hc8 hv8 ?_
  refine sw_iload_n dX9_cut_51 rfl ?_
  refine sw_iload_n dX9_cut_52 rfl ?_
  refine sw_cV (M := m_X9_cut) dX9_cut_53 lv_X9_310 hm11 hr11 rfl (by decide) rfl rfl rfl (Nat.le_of_ble_eq_true rfl) (fun _ _ => rfl) rfl ?_
  show SW sc m_X9_cut _ _ _ 56 [some (.ref r0), some (.int l1), some (.int l2)] [] g11 P
  refine sw_aload_n dX9_cut_56 rfl ?_
  refine sw_getf dX9_cut_57 lf_X9_68 hc13 hv13 ?_
  refine sw_iconst (v := 1) dX9_cut_60 (by decide) ?_
  refine sw_dup2 dX9_cut_61 (fun _ _ => rfl) (fun _ _ => rfl) ?_
  refine sw_iald dX9_cut_62 hc16 ho16 hi16 ?_
  refine sw_iconst (v := 1) dX9_cut_63 (by decide) ?_
  refine sw_iadd dX9_cut_64 ?_
  refine sw_iast dX9_cut_65 hc19 ho19 hl19 ?_
  refine sw_iconst (v := 1) dX9_cut_66 (by decide) ?_
  exact sw_ret (v := (some (.int 1))) dX9_cut_67 (rt_n (by decide)) hP
theorem b_X9_regraft_0 {r0 : Nat} {l1 : Int32} {l2 : Int32} {l3 : Int32} {g3 : ab_H} {fs3 : List Value} {g6 : ab_H} {fs6 : List Value} {g9 : ab_H} {fs9 : List Value} {v14 : Int32} {g14 : ab_H} {fs14 : List Value} (hr3 : (h)[r0]? = some (9, fs3)) (hm3 : MSE m_X9_needVertex d [.ref r0, .int l1] h none g3) (hr6 : (g3)[r0]? = some (9, fs6)) (hm6 : MSE m_X9_needVertex d [.ref r0, .int l2] g3 none g6) (hr9 : (g6)[r0]? = some (9, fs9)) (hm9 : MSE m_X9_needVertex d [.ref r0, .int l3] g6 none g9) (hr14 : (g9)[r0]? = some (9, fs14)) (hm14 : MSE m_X9_reasonAgainstRegraft d [.ref r0, .int l1, .int l2, .int l3] g9 (some (.int v14)) g14) (kt : v14 = 0 → SW sc m_X9_regraft (d + 1) rc rs 43 [some (.ref r0), some (.int l1), some (.int l2), some (.int l3), none] [] g14 P) (kf : ¬ (v14 = 0) → SW sc m_X9_regraft (d + 1) rc rs 29 [some (.ref r0), none, none, none, some (.int v14)] [] g14 P) : SW sc m_X9_regraft (d + 1) rc rs 0 [some (.ref r0), some (.int l1), some (.int l2), some (.int l3), none] [] h P := by
  refine sw_aload_n dX9_regraft_0 rfl ?_
  refine sw_iload_n dX9_regraft_1 rfl ?_
  refine sw_cV (M := m_X9_regraft) dX9_regraft_2 lv_X9_146 hm3 hr3 rfl (by decide) rfl rfl rfl (Nat.le_of_ble_eq_true rfl) (fun _ _ => rfl) rfl ?_
  show SW sc m_X9_regraft _ _ _ 5 [some (.ref r0), some (.int l1), some (.int l2), some (.int l3), none] [] g3 P
  refine sw_aload_n dX9_regraft_5 rfl ?_
  refine sw_iload_n dX9_regraft_6 rfl ?_
  refine sw_cV (M := m_X9_regraft) dX9_regraft_7 lv_X9_146 hm6 hr6 rfl (by decide) rfl rfl rfl (Nat.le_of_ble_eq_true rfl) (fun _ _ => rfl) rfl ?_
  show SW sc m_X9_regraft _ _ _ 10 [some (.ref r0), some (.int l1), some (.int l2), some (.int l3), none] [] g6 P
  refine sw_aload_n dX9_regraft_10 rfl ?_
  refine sw_iload_n dX9_regraft_11 rfl ?_
  refine sw_cV (M := m_X9_regraft) dX9_regraft_12 lv_X9_146 hm9 hr9 rfl (by decide) rfl rfl rfl (Nat.le_of_ble_eq_true rfl) (fun _ _ => rfl) rfl ?_
  show SW sc m_X9_regraft _ _ _ 15 [some (.ref r0), some (.int l1), some (.int l2), some (.int l3), none] [] g9 P
  refine sw_aload_n dX9_regraft_15 rfl ?_
  refine sw_iload_n dX9_regraft_16 rfl ?_
  refine sw_iload_n dX9_regraft_17 rfl ?_
  refine sw_iload_n dX9_regraft_18 rfl ?_
  refine sw_cV (M := m_X9_regraft) dX9_regraft_19 lv_X9_313 hm14 hr14 rfl (by decide) rfl rfl rfl (Nat.le_of_ble_eq_true rfl) (fun _ _ => rfl) rfl ?_
  show SW sc m_X9_regraft _ _ _ 22 [some (.ref r0), some (.int l1), some (.int l2), some (.int l3), none] [.int v14] g14 P
  refine sw_istore dX9_regraft_22 (by decide) rfl ?_
  show SW sc m_X9_regraft _ _ _ 24 [some (.ref r0), some (.int l1), some (.int l2), some (.int l3), some (.int v14)] [] g14 P
  refine sw_iload dX9_regraft_24 rfl ?_
  exact sw_if_eq dX9_regraft_26 (by decide) (fun q => (sw_fg [false, false, false, false, true] rfl (kt q))) (fun q => (sw_fg [false, true, true, true, false] rfl (kf q)))
theorem bx_X9_regraft_0_2 {r0 : Nat} {l1 : Int32} {l2 : Int32} {l3 : Int32} {E : Nat} {g3 : ab_H} {fs3 : List Value} (hr3 : (h)[r0]? = some (9, fs3)) (hm3 : MSX m_X9_needVertex d [.ref r0, .int l1] h E g3) (hx : ST sc m_X9_regraft (d + 1) rc rs 2 [some (.ref r0), some (.int l1), some (.int l2), some (.int l3), none] g3 E P) : SW sc m_X9_regraft (d + 1) (rc + 1) (rs + 6) 0 [some (.ref r0), some (.int l1), some (.int l2), some (.int l3), none] [] h P := by
  refine sw_aload_n dX9_regraft_0 rfl ?_
  refine sw_iload_n dX9_regraft_1 rfl ?_
  exact sw_xV (M := m_X9_regraft) dX9_regraft_2 lv_X9_146 hm3 hr3 rfl (by decide) rfl rfl rfl (Nat.le_of_ble_eq_true rfl) (fun _ _ => rfl) rfl hx
theorem bx_X9_regraft_0_7 {r0 : Nat} {l1 : Int32} {l2 : Int32} {l3 : Int32} {g3 : ab_H} {fs3 : List Value} {E : Nat} {g6 : ab_H} {fs6 : List Value} (hr3 : (h)[r0]? = some (9, fs3)) (hm3 : MSE m_X9_needVertex d [.ref r0, .int l1] h none g3) (hr6 : (g3)[r0]? = some (9, fs6)) (hm6 : MSX m_X9_needVertex d [.ref r0, .int l2] g3 E g6) (hx : ST sc m_X9_regraft (d + 1) rc rs 7 [some (.ref r0), some (.int l1), some (.int l2), some (.int l3), none] g6 E P) : SW sc m_X9_regraft (d + 1) (rc + 1) (rs + 6) 0 [some (.ref r0), some (.int l1), some (.int l2), some (.int l3), none] [] h P := by
  refine sw_aload_n dX9_regraft_0 rfl ?_
  refine sw_iload_n dX9_regraft_1 rfl ?_
  refine sw_cV (M := m_X9_regraft) dX9_regraft_2 lv_X9_146 hm3 hr3 rfl (by decide) rfl rfl rfl (Nat.le_of_ble_eq_true rfl) (fun _ _ => rfl) rfl ?_
  show SW sc m_X9_regraft _ _ _ 5 [some (.ref r0), some (.int l1), some (.int l2), some (.int l3), none] [] g3 P
  refine sw_aload_n dX9_regraft_5 rfl ?_
  refine sw_iload_n dX9_regraft_6 rfl ?_
  exact sw_xV (M := m_X9_regraft) dX9_regraft_7 lv_X9_146 hm6 hr6 rfl (by decide) rfl rfl rfl (Nat.le_of_ble_eq_true rfl) (fun _ _ => rfl) rfl hx
theorem bx_X9_regraft_0_12 {r0 : Nat} {l1 : Int32} {l2 : Int32} {l3 : Int32} {g3 : ab_H} {fs3 : List Value} {g6 : ab_H} {fs6 : List Value} {E : Nat} {g9 : ab_H} {fs9 : List Value} (hr3 : (h)[r0]? = some (9, fs3)) (hm3 : MSE m_X9_needVertex d [.ref r0, .int l1] h none g3) (hr6 : (g3)[r0]? = some (9, fs6)) (hm6 : MSE m_X9_needVertex d [.ref r0, .int l2] g3 none g6) (hr9 : (g6)[r0]? = some (9, fs9)) (hm9 : MSX m_X9_needVertex d [.ref r0, .int l3] g6 E g9) (hx : ST sc m_X9_regraft (d + 1) rc rs 12 [some (.ref r0), some (.int l1), some (.int l2), some (.int l3), none] g9 E P) : SW sc m_X9_regraft (d + 1) (rc + 1) (rs + 6) 0 [some (.ref r0), some (.int l1), some (.int l2), some (.int l3), none] [] h P := by
  refine sw_aload_n dX9_regraft_0 rfl ?_
  refine sw_iload_n dX9_regraft_1 rfl ?_
  refine sw_cV (M := m_X9_regraft) dX9_regraft_2 lv_X9_146 hm3 hr3 rfl (by decide) rfl rfl rfl (Nat.le_of_ble_eq_true rfl) (fun _ _ => rfl) rfl ?_
  show SW sc m_X9_regraft _ _ _ 5 [some (.ref r0), some (.int l1), some (.int l2), some (.int l3), none] [] g3 P
  refine sw_aload_n dX9_regraft_5 rfl ?_
  refine sw_iload_n dX9_regraft_6 rfl ?_
  refine sw_cV (M := m_X9_regraft) dX9_regraft_7 lv_X9_146 hm6 hr6 rfl (by decide) rfl rfl rfl (Nat.le_of_ble_eq_true rfl) (fun _ _ => rfl) rfl ?_
  show SW sc m_X9_regraft _ _ _ 10 [some (.ref r0), some (.int l1), some (.int l2), some (.int l3), none] [] g6 P
  refine sw_aload_n dX9_regraft_10 rfl ?_
  refine sw_iload_n dX9_regraft_11 rfl ?_
  exact sw_xV (M := m_X9_regraft) dX9_regraft_12 lv_X9_146 hm9 hr9 rfl (by decide) rfl rfl rfl (Nat.le_of_ble_eq_true rfl) (fun _ _ => rfl) rfl hx
theorem b_X9_regraft_29 {r0 : Nat} {l4 : Int32} {fs2 : List Value} {a2 : Nat} {vs5 : List Value} {x5 : Int32} {vs8 : List Value} (hc2 : (h)[r0]? = some (9, fs2)) (hv2 : fs2[9]? = some (.ref a2)) (hc5 : (h)[a2]? = some (100, vs5)) (ho5 : ¬ (7 : Int32) < 0) (hi5 : vs5[(7 : Int32).toNatClampNeg]? = some (.int x5)) (hc8 : (h)[a2]? = some (100, vs8)) (ho8 : ¬ (7 : Int32) < 0) (hl8 : (7 : Int32).toNatClampNeg < vs8.length) (hP : P (.inl (some (.int l4))) ((h).set a2 (100, vs8.set (7 : Int32).toNatClampNeg (.int (x5 + 1))))) : SW sc m_X9_regraft d rc rs 29 [some (.ref r0), none, none, none, some (.int l4)] [] h P := by
  refine sw_aload_n dX9_regraft_29 rfl ?_
  refine sw_getf dX9_regraft_30 lf_X9_68 hc2 hv2 ?_
  refine sw_bipush (v := 7) dX9_regraft_33 (by decide) ?_
  refine sw_dup2 dX9_regraft_35 (fun _ _ => rfl) (fun _ _ => rfl) ?_
  refine sw_iald dX9_regraft_36 hc5 ho5 hi5 ?_
  refine sw_iconst (v := 1) dX9_regraft_37 (by decide) ?_
  refine sw_iadd dX9_regraft_38 ?_
  refine sw_iast dX9_regraft_39 hc8 ho8 hl8 ?_
  refine sw_iload dX9_regraft_40 rfl ?_
  exact sw_ret (v := (some (.int l4))) dX9_regraft_42 rt_i hP
theorem b_X9_regraft_43 {r0 : Nat} {l1 : Int32} {l2 : Int32} {l3 : Int32} {fs2 : List Value} {a2 : Nat} {fs4 : List Value} {a4 : Nat} {v5 : Nat} {g5 : ab_H} {fs5 : List Value} {fs8 : List Value} {a8 : Nat} {g11 : ab_H} {fs11 : List Value} {fs13 : List Value} {a13 : Nat} {g16 : ab_H} {fs16 : List Value} {fs18 : List Value} {a18 : Nat} {vs21 : List Value} {x21 : Int32} {vs24 : List Value} (hc2 : (h)[r0]? = some (9, fs2)) (hv2 : fs2[8]? = some (.ref a2)) (hc4 : (h)[r0]? = some (9, fs4)) (hv4 : fs4[2]? = some (.ref a4)) (hr5 : (h)[a2]? = some (5, fs5)) (hm5 : MSE m_X5_record d [.ref a2, .ref a4] h (some (.ref v5)) g5) (hc8 : (g5)[r0]? = some (9, fs8)) (hv8 : fs8[2]? = some (.ref a8)) (hr11 : (g5)[a8]? = some (3, fs11)) (hm11 : MSE m_X3_part d [.ref a8, .int l1, .int l2] g5 none g11) (hc13 : (g11)[r0]? = some (9, fs13)) (hv13 : fs13[2]? = some (.ref a13)) (hr16 : (g11)[a13]? = some (3, fs16)) (hm16 : MSE m_X3_join d [.ref a13, .int l1, .int l3] g11 none g16) (hc18 : (g16)[r0]? = some (9, fs18)) (hv18 : fs18[9]? = some (.ref a18)) (hc21 : (g16)[a18]? = some (100, vs21)) (ho21 : ¬ (2 : Int32) < 0) (hi21 : vs21[(2 : Int32).toNatClampNeg]? = some (.int x21)) (hc24 : (g16)[a18]? = some (100, vs24)) (ho24 : ¬ (2 : Int32) < 0) (hl24 : (2 : Int32).toNatClampNeg < vs24.length) (hP : P (.inl (some (.int 0))) ((g16).set a18 (100, vs24.set (2 : Int32).toNatClampNeg (.int (x21 + 1))))) : SW sc m_X9_regraft (d + 1) rc rs 43 [some (.ref r0), some (.int l1), some (.int l2), some (.int l3), none] [] h P := by
  refine sw_aload_n dX9_regraft_43 rfl ?_
  refine sw_getf dX9_regraft_44 lf_X9_64 hc2 hv2 ?_
  refine sw_aload_n dX9_regraft_47 rfl ?_
  refine sw_getf dX9_regraft_48 lf_X9_26 hc4 hv4 ?_
  refine sw_cV (M := m_X9_regraft) dX9_regraft_51 lv_X9_302 hm5 hr5 rfl (by decide) rfl rfl rfl (Nat.le_of_ble_eq_true rfl) (fun _ _ => rfl) rfl ?_
  show SW sc m_X9_regraft _ _ _ 54 [some (.ref r0), some (.int l1), some (.int l2), some (.int l3), none] [.ref v5] g5 P
  refine sw_pop dX9_regraft_54 (fun _ _ => rfl) ?_
  refine sw_aload_n dX9_regraft_55 rfl ?_
  refine sw_getf dX9_regraft_56 lf_X9_26 hc8 hv8 ?_
  refine sw_iload_n dX9_regraft_59 rfl ?_
  refine sw_iload_n dX9_regraft_60 rfl ?_
  refine sw_cV (M := m_X9_regraft) dX9_regraft_61 lv_X9_310 hm11 hr11 rfl (by decide) rfl rfl rfl (Nat.le_of_ble_eq_true rfl) (fun _ _ => rfl) rfl ?_
  show SW sc m_X9_regraft _ _ _ 64 [some (.ref r0), some (.int l1), some (.int l2), some (.int l3), none] [] g11 P
  refine sw_aload_n dX9_regraft_64 rfl ?_
  refine sw_getf dX9_regraft_65 lf_X9_26 hc13 hv13 ?_
  refine sw_iload_n dX9_regraft_68 rfl ?_
  refine sw_iload_n dX9_regraft_69 rfl ?_
  refine sw_cV (M := m_X9_regraft) dX9_regraft_70 lv_X9_306 hm16 hr16 rfl (by decide) rfl rfl rfl (Nat.le_of_ble_eq_true rfl) (fun _ _ => rfl) rfl ?_
  show SW sc m_X9_regraft _ _ _ 73 [some (.ref r0), some (.int l1), some (.int l2), some (.int l3), none] [] g16 P
  refine sw_aload_n dX9_regraft_73 rfl ?_
  refine sw_getf dX9_regraft_74 lf_X9_68 hc18 hv18 ?_
  refine sw_iconst (v := 2) dX9_regraft_77 (by decide) ?_
  refine sw_dup2 dX9_regraft_78 (fun _ _ => rfl) (fun _ _ => rfl) ?_
  refine sw_iald dX9_regraft_79 hc21 ho21 hi21 ?_
  refine sw_iconst (v := 1) dX9_regraft_80 (by decide) ?_
  refine sw_iadd dX9_regraft_81 ?_
  refine sw_iast dX9_regraft_82 hc24 ho24 hl24 ?_
  refine sw_iconst (v := 0) dX9_regraft_83 (by decide) ?_
  exact sw_ret (v := (some (.int 0))) dX9_regraft_84 rt_i hP
theorem b_X9_prune_0 {r0 : Nat} {l1 : Int32} (kt : l1 < 1 → SW sc m_X9_prune d rc rs 11 [none, none, none, none] [] h P) (kf : ¬ (l1 < 1) → SW sc m_X9_prune d rc rs 5 [some (.ref r0), some (.int l1), none, none] [] h P) : SW sc m_X9_prune d rc rs 0 [some (.ref r0), some (.int l1), none, none] [] h P := by
  refine sw_iload_n dX9_prune_0 rfl ?_
  refine sw_iconst (v := 1) dX9_prune_1 (by decide) ?_
  exact sw_icmp_lt dX9_prune_2 (by decide) (fun q => (sw_fg [true, true, false, false] rfl (kt q))) (fun q => (kf q))
theorem b_X9_prune_5 {r0 : Nat} {l1 : Int32} (kt : l1 ≤ 9 → SW sc m_X9_prune d rc rs 22 [some (.ref r0), some (.int l1), none, none] [] h P) (kf : ¬ (l1 ≤ 9) → SW sc m_X9_prune d rc rs 11 [none, none, none, none] [] h P) : SW sc m_X9_prune d rc rs 5 [some (.ref r0), some (.int l1), none, none] [] h P := by
  refine sw_iload_n dX9_prune_5 rfl ?_
  refine sw_bipush (v := 9) dX9_prune_6 (by decide) ?_
  exact sw_icmp_le dX9_prune_8 (by decide) (fun q => (kt q)) (fun q => (sw_fg [true, true, false, false] rfl (kf q)))
theorem b_X9_prune_11  (hP : P (.inr 2) h) : SW sc m_X9_prune d (rc + 1) (rs + 6) 11 [none, none, none, none] [] h P := by
  exact sw_throwW (M := m_X9_prune) dX9_prune_11 dX9_prune_14 dX9_prune_15 dX9_prune_18 dX9_prune_21 lt_X9_2 sr_X9_316 (Nat.le_of_ble_eq_true rfl) (fun _ _ => rfl) (st_out rfl hP)
theorem b_X9_prune_22 {r0 : Nat} {l1 : Int32} {fs2 : List Value} {a2 : Nat} {fs4 : List Value} {a4 : Nat} {v5 : Nat} {g5 : ab_H} {fs5 : List Value} {fs8 : List Value} {a8 : Nat} {v9 : Int32} {g9 : ab_H} {fs9 : List Value} (hc2 : (h)[r0]? = some (9, fs2)) (hv2 : fs2[8]? = some (.ref a2)) (hc4 : (h)[r0]? = some (9, fs4)) (hv4 : fs4[2]? = some (.ref a4)) (hr5 : (h)[a2]? = some (5, fs5)) (hm5 : MSE m_X5_record d [.ref a2, .ref a4] h (some (.ref v5)) g5) (hc8 : (g5)[r0]? = some (9, fs8)) (hv8 : fs8[2]? = some (.ref a8)) (hr9 : (g5)[a8]? = some (3, fs9)) (hm9 : MSE m_X3_edges d [.ref a8] g5 (some (.int v9)) g9) (k : SW sc m_X9_prune (d + 1) rc rs 44 [some (.ref r0), some (.int l1), some (.int v9), some (.int 0)] [] g9 P) : SW sc m_X9_prune (d + 1) rc rs 22 [some (.ref r0), some (.int l1), none, none] [] h P := by
  refine sw_aload_n dX9_prune_22 rfl ?_
  refine sw_getf dX9_prune_23 lf_X9_64 hc2 hv2 ?_
  refine sw_aload_n dX9_prune_26 rfl ?_
  refine sw_getf dX9_prune_27 lf_X9_26 hc4 hv4 ?_
  refine sw_cV (M := m_X9_prune) dX9_prune_30 lv_X9_302 hm5 hr5 rfl (by decide) rfl rfl rfl (Nat.le_of_ble_eq_true rfl) (fun _ _ => rfl) rfl ?_
  show SW sc m_X9_prune _ _ _ 33 [some (.ref r0), some (.int l1), none, none] [.ref v5] g5 P
  refine sw_pop dX9_prune_33 (fun _ _ => rfl) ?_
  refine sw_aload_n dX9_prune_34 rfl ?_
  refine sw_getf dX9_prune_35 lf_X9_26 hc8 hv8 ?_
  refine sw_cV (M := m_X9_prune) dX9_prune_38 lv_X9_107 hm9 hr9 rfl (by decide) rfl rfl rfl (Nat.le_of_ble_eq_true rfl) (fun _ _ => rfl) rfl ?_
  show SW sc m_X9_prune _ _ _ 41 [some (.ref r0), some (.int l1), none, none] [.int v9] g9 P
  refine sw_istore_n dX9_prune_41 (by decide) rfl ?_
  show SW sc m_X9_prune _ _ _ 42 [some (.ref r0), some (.int l1), some (.int v9), none] [] g9 P
  refine sw_iconst (v := 0) dX9_prune_42 (by decide) ?_
  refine sw_istore_n dX9_prune_43 (by decide) rfl ?_
  show SW sc m_X9_prune _ _ _ 44 [some (.ref r0), some (.int l1), some (.int v9), some (.int 0)] [] g9 P
  exact (k)
theorem b_X9_prune_44 {r0 : Nat} {l1 : Int32} {l2 : Int32} {l3 : Int32} (kt : l1 ≤ l3 → SW sc m_X9_prune d rc rs 62 [some (.ref r0), some (.int l1), some (.int l2), none] [] h P) (kf : ¬ (l1 ≤ l3) → SW sc m_X9_prune d rc rs 49 [some (.ref r0), some (.int l1), some (.int l2), some (.int l3)] [] h P) : SW sc m_X9_prune d rc rs 44 [some (.ref r0), some (.int l1), some (.int l2), some (.int l3)] [] h P := by
  refine sw_iload_n dX9_prune_44 rfl ?_
  refine sw_iload_n dX9_prune_45 rfl ?_
  exact sw_icmp_ge dX9_prune_46 (by decide) (fun q => (sw_fg [false, false, false, true] rfl (kt q))) (fun q => (kf q))
theorem b_X9_prune_49 {r0 : Nat} {l1 : Int32} {l2 : Int32} {l3 : Int32} {fs2 : List Value} {a2 : Nat} {g3 : ab_H} {fs3 : List Value} (hc2 : (h)[r0]? = some (9, fs2)) (hv2 : fs2[2]? = some (.ref a2)) (hr3 : (h)[a2]? = some (3, fs3)) (hm3 : MSE m_X3_dropLeaves d [.ref a2] h none g3) (k : SW sc m_X9_prune (d + 1) rc rs 44 [some (.ref r0), some (.int l1), some (.int l2), some (.int (l3 + 1))] [] g3 P) : SW sc m_X9_prune (d + 1) rc rs 49 [some (.ref r0), some (.int l1), some (.int l2), some (.int l3)] [] h P := by
  refine sw_aload_n dX9_prune_49 rfl ?_
  refine sw_getf dX9_prune_50 lf_X9_26 hc2 hv2 ?_
  refine sw_cV (M := m_X9_prune) dX9_prune_53 lv_X9_318 hm3 hr3 rfl (by decide) rfl rfl rfl (Nat.le_of_ble_eq_true rfl) (fun _ _ => rfl) rfl ?_
  show SW sc m_X9_prune _ _ _ 56 [some (.ref r0), some (.int l1), some (.int l2), some (.int l3)] [] g3 P
  refine sw_iinc (v := l3 + 1) dX9_prune_56 rfl rfl (by decide) rfl ?_
  show SW sc m_X9_prune _ _ _ 59 [some (.ref r0), some (.int l1), some (.int l2), some (.int (l3 + 1))] [] g3 P
  exact sw_goto dX9_prune_59 (by decide) (k)
theorem b_X9_prune_62 {r0 : Nat} {l1 : Int32} {l2 : Int32} {fs2 : List Value} {a2 : Nat} {vs5 : List Value} {x5 : Int32} {vs8 : List Value} {fs11 : List Value} {a11 : Nat} {v12 : Int32} {g12 : ab_H} {fs12 : List Value} (hc2 : (h)[r0]? = some (9, fs2)) (hv2 : fs2[9]? = some (.ref a2)) (hc5 : (h)[a2]? = some (100, vs5)) (ho5 : ¬ (3 : Int32) < 0) (hi5 : vs5[(3 : Int32).toNatClampNeg]? = some (.int x5)) (hc8 : (h)[a2]? = some (100, vs8)) (ho8 : ¬ (3 : Int32) < 0) (hl8 : (3 : Int32).toNatClampNeg < vs8.length) (hc11 : ((h).set a2 (100, vs8.set (3 : Int32).toNatClampNeg (.int (x5 + l1))))[r0]? = some (9, fs11)) (hv11 : fs11[2]? = some (.ref a11)) (hr12 : ((h).set a2 (100, vs8.set (3 : Int32).toNatClampNeg (.int (x5 + l1))))[a11]? = some (3, fs12)) (hm12 : MSE m_X3_edges d [.ref a11] ((h).set a2 (100, vs8.set (3 : Int32).toNatClampNeg (.int (x5 + l1)))) (some (.int v12)) g12) (hP : P (.inl (some (.int (l2 - v12)))) g12) : SW sc m_X9_prune (d + 1) rc rs 62 [some (.ref r0), some (.int l1), some (.int l2), none] [] h P := by
  refine sw_aload_n dX9_prune_62 rfl ?_
  refine sw_getf dX9_prune_63 lf_X9_68 hc2 hv2 ?_
  refine sw_iconst (v := 3) dX9_prune_66 (by decide) ?_
  refine sw_dup2 dX9_prune_67 (fun _ _ => rfl) (fun _ _ => rfl) ?_
  refine sw_iald dX9_prune_68 hc5 ho5 hi5 ?_
  refine sw_iload_n dX9_prune_69 rfl ?_
  refine sw_iadd dX9_prune_70 ?_
  refine sw_iast dX9_prune_71 hc8 ho8 hl8 ?_
  refine sw_iload_n dX9_prune_72 rfl ?_
  refine sw_aload_n dX9_prune_73 rfl ?_
  refine sw_getf dX9_prune_74 lf_X9_26 hc11 hv11 ?_
  refine sw_cV (M := m_X9_prune) dX9_prune_77 lv_X9_107 hm12 hr12 rfl (by decide) rfl rfl rfl (Nat.le_of_ble_eq_true rfl) (fun _ _ => rfl) rfl ?_
  show SW sc m_X9_prune _ _ _ 80 [some (.ref r0), some (.int l1), some (.int l2), none] [.int v12, .int l2] g12 P
  refine sw_isub dX9_prune_80 ?_
  exact sw_ret (v := (some (.int (l2 - v12)))) dX9_prune_81 rt_i hP
theorem b_X9_swap_0 {r0 : Nat} {l1 : Int32} {l2 : Int32} {g3 : ab_H} {fs3 : List Value} {g6 : ab_H} {fs6 : List Value} {fs8 : List Value} {a8 : Nat} {fs10 : List Value} {a10 : Nat} {v11 : Nat} {g11 : ab_H} {fs11 : List Value} {fs14 : List Value} {a14 : Nat} {g17 : ab_H} {fs17 : List Value} {fs19 : List Value} {a19 : Nat} {v21 : Int32} {g21 : ab_H} {fs21 : List Value} (hr3 : (h)[r0]? = some (9, fs3)) (hm3 : MSE m_X9_needVertex d [.ref r0, .int l1] h none g3) (hr6 : (g3)[r0]? = some (9, fs6)) (hm6 : MSE m_X9_needVertex d [.ref r0, .int l2] g3 none g6) (hc8 : (g6)[r0]? = some (9, fs8)) (hv8 : fs8[8]? = some (.ref a8)) (hc10 : (g6)[r0]? = some (9, fs10)) (hv10 : fs10[2]? = some (.ref a10)) (hr11 : (g6)[a8]? = some (5, fs11)) (hm11 : MSE m_X5_record d [.ref a8, .ref a10] g6 (some (.ref v11)) g11) (hc14 : (g11)[r0]? = some (9, fs14)) (hv14 : fs14[2]? = some (.ref a14)) (hr17 : (g11)[a14]? = some (3, fs17)) (hm17 : MSE m_X3_exchange d [.ref a14, .int l1, .int l2] g11 none g17) (hc19 : (g17)[r0]? = some (9, fs19)) (hv19 : fs19[2]? = some (.ref a19)) (hr21 : (g17)[a19]? = some (3, fs21)) (hm21 : MSE m_X3_edgesNotIn d [.ref a19, .ref v11] g17 (some (.int v21)) g21) (hP : P (.inl (some (.int v21))) g21) : SW sc m_X9_swap (d + 1) rc rs 0 [some (.ref r0), some (.int l1), some (.int l2), none] [] h P := by
  refine sw_aload_n dX9_swap_0 rfl ?_
  refine sw_iload_n dX9_swap_1 rfl ?_
  refine sw_cV (M := m_X9_swap) dX9_swap_2 lv_X9_146 hm3 hr3 rfl (by decide) rfl rfl rfl (Nat.le_of_ble_eq_true rfl) (fun _ _ => rfl) rfl ?_
  show SW sc m_X9_swap _ _ _ 5 [some (.ref r0), some (.int l1), some (.int l2), none] [] g3 P
  refine sw_aload_n dX9_swap_5 rfl ?_
  refine sw_iload_n dX9_swap_6 rfl ?_
  refine sw_cV (M := m_X9_swap) dX9_swap_7 lv_X9_146 hm6 hr6 rfl (by decide) rfl rfl rfl (Nat.le_of_ble_eq_true rfl) (fun _ _ => rfl) rfl ?_
  show SW sc m_X9_swap _ _ _ 10 [some (.ref r0), some (.int l1), some (.int l2), none] [] g6 P
  refine sw_aload_n dX9_swap_10 rfl ?_
  refine sw_getf dX9_swap_11 lf_X9_64 hc8 hv8 ?_
  refine sw_aload_n dX9_swap_14 rfl ?_
  refine sw_getf dX9_swap_15 lf_X9_26 hc10 hv10 ?_
  refine sw_cV (M := m_X9_swap) dX9_swap_18 lv_X9_302 hm11 hr11 rfl (by decide) rfl rfl rfl (Nat.le_of_ble_eq_true rfl) (fun _ _ => rfl) rfl ?_
  show SW sc m_X9_swap _ _ _ 21 [some (.ref r0), some (.int l1), some (.int l2), none] [.ref v11] g11 P
  refine sw_astore_n dX9_swap_21 (by decide) rfl ?_
  show SW sc m_X9_swap _ _ _ 22 [some (.ref r0), some (.int l1), some (.int l2), some (.ref v11)] [] g11 P
  refine sw_aload_n dX9_swap_22 rfl ?_
  refine sw_getf dX9_swap_23 lf_X9_26 hc14 hv14 ?_
  refine sw_iload_n dX9_swap_26 rfl ?_
  refine sw_iload_n dX9_swap_27 rfl ?_
  refine sw_cV (M := m_X9_swap) dX9_swap_28 lv_X9_321 hm17 hr17 rfl (by decide) rfl rfl rfl (Nat.le_of_ble_eq_true rfl) (fun _ _ => rfl) rfl ?_
  show SW sc m_X9_swap _ _ _ 31 [some (.ref r0), some (.int l1), some (.int l2), some (.ref v11)] [] g17 P
  refine sw_aload_n dX9_swap_31 rfl ?_
  refine sw_getf dX9_swap_32 lf_X9_26 hc19 hv19 ?_
  refine sw_aload_n dX9_swap_35 rfl ?_
  refine sw_cV (M := m_X9_swap) dX9_swap_36 lv_X9_324 hm21 hr21 rfl (by decide) rfl rfl rfl (Nat.le_of_ble_eq_true rfl) (fun _ _ => rfl) rfl ?_
  show SW sc m_X9_swap _ _ _ 39 [some (.ref r0), some (.int l1), some (.int l2), some (.ref v11)] [.int v21] g21 P
  exact sw_ret (v := (some (.int v21))) dX9_swap_39 rt_i hP
theorem bx_X9_swap_0_2 {r0 : Nat} {l1 : Int32} {l2 : Int32} {E : Nat} {g3 : ab_H} {fs3 : List Value} (hr3 : (h)[r0]? = some (9, fs3)) (hm3 : MSX m_X9_needVertex d [.ref r0, .int l1] h E g3) (hx : ST sc m_X9_swap (d + 1) rc rs 2 [some (.ref r0), some (.int l1), some (.int l2), none] g3 E P) : SW sc m_X9_swap (d + 1) (rc + 1) (rs + 6) 0 [some (.ref r0), some (.int l1), some (.int l2), none] [] h P := by
  refine sw_aload_n dX9_swap_0 rfl ?_
  refine sw_iload_n dX9_swap_1 rfl ?_
  exact sw_xV (M := m_X9_swap) dX9_swap_2 lv_X9_146 hm3 hr3 rfl (by decide) rfl rfl rfl (Nat.le_of_ble_eq_true rfl) (fun _ _ => rfl) rfl hx
end
