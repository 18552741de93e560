section
variable {sc : Option (List Int32)} {d rc rs : Nat} {h : ab_H} {P : ab_O → ab_H → Prop}
theorem b_X7_answer_0 {r0 : Nat} {l1 : Int32} {l2 : Int32} (kt : l1 < 1 → SW sc m_X7_answer d rc rs 24 [some (.ref r0), some (.int l1), some (.int l2), none] [] h P) (kf : ¬ (l1 < 1) → SW sc m_X7_answer d rc rs 5 [some (.ref r0), some (.int l1), some (.int l2), none] [] h P) : SW sc m_X7_answer d rc rs 0 [some (.ref r0), some (.int l1), some (.int l2), none] [] h P := by
  refine sw_iload_n dX7_answer_0 rfl ?_
  refine sw_iconst (v := 1) dX7_answer_1 (by decide) ?_
  exact sw_icmp_lt dX7_answer_2 (by decide) (fun q => (kt q)) (fun q => (kf q))
theorem b_X7_answer_5 {r0 : Nat} {l1 : Int32} {l2 : Int32} (kt : 6 < l1 → SW sc m_X7_answer d rc rs 24 [some (.ref r0), some (.int l1), some (.int l2), none] [] h P) (kf : ¬ (6 < l1) → SW sc m_X7_answer d rc rs 11 [some (.ref r0), some (.int l1), some (.int l2), none] [] h P) : SW sc m_X7_answer d rc rs 5 [some (.ref r0), some (.int l1), some (.int l2), none] [] h P := by
  refine sw_iload_n dX7_answer_5 rfl ?_
  refine sw_bipush (v := 6) dX7_answer_6 (by decide) ?_
  exact sw_icmp_gt dX7_answer_8 (by decide) (fun q => (kt q)) (fun q => (kf q))
theorem b_X7_answer_11 {r0 : Nat} {l1 : Int32} {l2 : Int32} (kt : l2 < 0 → SW sc m_X7_answer d rc rs 24 [some (.ref r0), some (.int l1), some (.int l2), none] [] h P) (kf : ¬ (l2 < 0) → SW sc m_X7_answer d rc rs 15 [some (.ref r0), some (.int l1), some (.int l2), none] [] h P) : SW sc m_X7_answer d rc rs 11 [some (.ref r0), some (.int l1), some (.int l2), none] [] h P := by
  refine sw_iload_n dX7_answer_11 rfl ?_
  exact sw_if_lt dX7_answer_12 (by decide) (fun q => (kt q)) (fun q => (kf q))
theorem b_X7_answer_15 {r0 : Nat} {l1 : Int32} {l2 : Int32} (kt : 3 ≤ l2 → SW sc m_X7_answer d rc rs 24 [some (.ref r0), some (.int l1), some (.int l2), none] [] h P) (kf : ¬ (3 ≤ l2) → SW sc m_X7_answer d rc rs 20 [some (.ref r0), some (.int l1), some (.int l2), none] [] h P) : SW sc m_X7_answer d rc rs 15 [some (.ref r0), some (.int l1), some (.int l2), none] [] h P := by
  refine sw_iload_n dX7_answer_15 rfl ?_
  refine sw_iconst (v := 3) dX7_answer_16 (by decide) ?_
  exact sw_icmp_ge dX7_answer_17 (by decide) (fun q => (kt q)) (fun q => (kf q))
theorem b_X7_answer_20 {r0 : Nat} {l1 : Int32} {l2 : Int32} (k : SW sc m_X7_answer d rc rs 25 [some (.ref r0), some (.int l1), some (.int l2), none] [.int 1] h P) : SW sc m_X7_answer d rc rs 20 [some (.ref r0), some (.int l1), some (.int l2), none] [] h P := by
  refine sw_iconst (v := 1) dX7_answer_20 (by decide) ?_
  exact sw_goto dX7_answer_21 (by decide) (k)
theorem b_X7_answer_24 {r0 : Nat} {l1 : Int32} {l2 : Int32} (k : SW sc m_X7_answer d rc rs 25 [some (.ref r0), some (.int l1), some (.int l2), none] [.int 0] h P) : SW sc m_X7_answer d rc rs 24 [some (.ref r0), some (.int l1), some (.int l2), none] [] h P := by
  refine sw_iconst (v := 0) dX7_answer_24 (by decide) ?_
  exact (k)
theorem b_X7_answer_25 {r0 : Nat} {l1 : Int32} {l2 : Int32} {s0 : Int32} (kt : s0 = 0 → SW sc m_X7_answer d rc rs 41 [none, none, none, none] [] h P) (kf : ¬ (s0 = 0) → SW sc m_X7_answer d rc rs 30 [some (.ref r0), some (.int l1), some (.int l2), none] [] h P) : SW sc m_X7_answer d rc rs 25 [some (.ref r0), some (.int l1), some (.int l2), none] [.int s0] h P := by
  refine sw_istore_n dX7_answer_25 (by decide) rfl ?_
  show SW sc m_X7_answer _ _ _ 26 [some (.ref r0), some (.int l1), some (.int l2), some (.int s0)] [] h P
  refine sw_iload_n dX7_answer_26 rfl ?_
  exact sw_if_eq dX7_answer_27 (by decide) (fun q => (sw_fg [true, true, true, true] rfl (kt q))) (fun q => (sw_fg [false, false, false, true] rfl (kf q)))
theorem b_X7_answer_30 {r0 : Nat} {l1 : Int32} {l2 : Int32} {fs2 : List Value} {a2 : Nat} {vs4 : List Value} {a4 : Nat} {vs6 : List Value} {x6 : Int32} (hc2 : (h)[r0]? = some (7, fs2)) (hv2 : fs2[0]? = some (.ref a2)) (hc4 : (h)[a2]? = some (104, vs4)) (ho4 : ¬ l1 < 0) (hi4 : vs4[l1.toNatClampNeg]? = some (.ref a4)) (hc6 : (h)[a4]? = some (100, vs6)) (ho6 : ¬ l2 < 0) (hi6 : vs6[l2.toNatClampNeg]? = some (.int x6)) (k : SW sc m_X7_answer d rc rs 42 [none, none, none, none] [.int x6] h P) : SW sc m_X7_answer d rc rs 30 [some (.ref r0), some (.int l1), some (.int l2), none] [] h P := by
  refine sw_aload_n dX7_answer_30 rfl ?_
  refine sw_getf dX7_answer_31 lf_X7_11 hc2 hv2 ?_
  refine sw_iload_n dX7_answer_34 rfl ?_
  refine sw_aald dX7_answer_35 hc4 ho4 hi4 ?_
  refine sw_iload_n dX7_answer_36 rfl ?_
  refine sw_iald dX7_answer_37 hc6 ho6 hi6 ?_
  exact sw_goto dX7_answer_38 (by decide) (sw_fg [true, true, true, false] rfl (k))
theorem b_X7_answer_41  (k : SW sc m_X7_answer d rc rs 42 [none, none, none, none] [.int (-1)] h P) : SW sc m_X7_answer d rc rs 41 [none, none, none, none] [] h P := by
  refine sw_iconst (v := (-1)) dX7_answer_41 (by decide) ?_
  exact (k)
theorem b_X7_answer_42 {s0 : Int32} (hP : P (.inl (some (.int s0))) h) : SW sc m_X7_answer d rc rs 42 [none, none, none, none] [.int s0] h P := by
  exact sw_ret (v := (some (.int s0))) dX7_answer_42 rt_i hP
theorem b_X7_goThrough_0 {r0 : Nat} {l1 : Int32} (kt : l1 < 1 → SW sc m_X7_goThrough d rc rs 22 [none, none, none, none, none, none] [] h P) (kf : ¬ (l1 < 1) → SW sc m_X7_goThrough d rc rs 5 [some (.ref r0), some (.int l1), none, none, none, none] [] h P) : SW sc m_X7_goThrough d rc rs 0 [some (.ref r0), some (.int l1), none, none, none, none] [] h P := by
  refine sw_iload_n dX7_goThrough_0 rfl ?_
  refine sw_iconst (v := 1) dX7_goThrough_1 (by decide) ?_
  exact sw_icmp_lt dX7_goThrough_2 (by decide) (fun q => (sw_fg [true, true, false, false, false, false] rfl (kt q))) (fun q => (kf q))
theorem b_X7_goThrough_5 {r0 : Nat} {l1 : Int32} (kt : 6 < l1 → SW sc m_X7_goThrough d rc rs 22 [none, none, none, none, none, none] [] h P) (kf : ¬ (6 < l1) → SW sc m_X7_goThrough d rc rs 11 [some (.ref r0), some (.int l1), none, none, none, none] [] h P) : SW sc m_X7_goThrough d rc rs 5 [some (.ref r0), some (.int l1), none, none, none, none] [] h P := by
  refine sw_iload_n dX7_goThrough_5 rfl ?_
  refine sw_bipush (v := 6) dX7_goThrough_6 (by decide) ?_
  exact sw_icmp_gt dX7_goThrough_8 (by decide) (fun q => (sw_fg [true, true, false, false, false, false] rfl (kt q))) (fun q => (kf q))
theorem b_X7_goThrough_11 {r0 : Nat} {l1 : Int32} {fs2 : List Value} {a2 : Nat} {vs4 : List Value} {a4 : Nat} {vs6 : List Value} {x6 : Int32} (hc2 : (h)[r0]? = some (7, fs2)) (hv2 : fs2[0]? = some (.ref a2)) (hc4 : (h)[a2]? = some (104, vs4)) (ho4 : ¬ l1 < 0) (hi4 : vs4[l1.toNatClampNeg]? = some (.ref a4)) (hc6 : (h)[a4]? = some (100, vs6)) (ho6 : ¬ (0 : Int32) < 0) (hi6 : vs6[(0 : Int32).toNatClampNeg]? = some (.int x6)) (kt : x6 = 0 → SW sc m_X7_goThrough d rc rs 23 [some (.ref r0), some (.int l1), none, none, none, none] [] h P) (kf : ¬ (x6 = 0) → SW sc m_X7_goThrough d rc rs 22 [none, none, none, none, none, none] [] h P) : SW sc m_X7_goThrough d rc rs 11 [some (.ref r0), some (.int l1), none, none, none, none] [] h P := by
  refine sw_aload_n dX7_goThrough_11 rfl ?_
  refine sw_getf dX7_goThrough_12 lf_X7_11 hc2 hv2 ?_
  refine sw_iload_n dX7_goThrough_15 rfl ?_
  refine sw_aald dX7_goThrough_16 hc4 ho4 hi4 ?_
  refine sw_iconst (v := 0) dX7_goThrough_17 (by decide) ?_
  refine sw_iald dX7_goThrough_18 hc6 ho6 hi6 ?_
  exact sw_if_eq dX7_goThrough_19 (by decide) (fun q => (kt q)) (fun q => (sw_fg [true, true, false, false, false, false] rfl (kf q)))
theorem b_X7_goThrough_22  (hP : P (.inl none) h) : SW sc m_X7_goThrough d rc rs 22 [none, none, none, none, none, none] [] h P := by
  exact sw_ret (v := none) dX7_goThrough_22 rt_v hP
theorem b_X7_goThrough_23 {r0 : Nat} {l1 : Int32} {fs2 : List Value} {a2 : Nat} {g3 : ab_H} {fs3 : List Value} {fs5 : List Value} {a5 : Nat} {g7 : ab_H} {fs7 : List Value} (hc2 : (h)[r0]? = some (7, fs2)) (hv2 : fs2[4]? = some (.ref a2)) (hr3 : (h)[a2]? = some (4, fs3)) (hm3 : MSE m_X4_forget d [.ref a2] h none g3) (hc5 : (g3)[r0]? = some (7, fs5)) (hv5 : fs5[1]? = some (.ref a5)) (hr7 : (g3)[a5]? = some (3, fs7)) (hm7 : MSE m_X3_clear d [.ref a5, .int l1] g3 none g7) (k : SW sc m_X7_goThrough (d + 1) rc rs 45 [some (.ref r0), some (.int l1), some (.int (-1)), some (.int 0), some (.int 0), none] [] g7 P) : SW sc m_X7_goThrough (d + 1) rc rs 23 [some (.ref r0), some (.int l1), none, none, none, none] [] h P := by
  refine sw_aload_n dX7_goThrough_23 rfl ?_
  refine sw_getf dX7_goThrough_24 lf_X7_40 hc2 hv2 ?_
  refine sw_cV (M := m_X7_goThrough) dX7_goThrough_27 lv_X7_44 hm3 hr3 rfl (by decide) rfl rfl rfl (Nat.le_of_ble_eq_true rfl) (fun _ _ => rfl) rfl ?_
  show SW sc m_X7_goThrough _ _ _ 30 [some (.ref r0), some (.int l1), none, none, none, none] [] g3 P
  refine sw_aload_n dX7_goThrough_30 rfl ?_
  refine sw_getf dX7_goThrough_31 lf_X7_19 hc5 hv5 ?_
  refine sw_iload_n dX7_goThrough_34 rfl ?_
  refine sw_cV (M := m_X7_goThrough) dX7_goThrough_35 lv_X7_47 hm7 hr7 rfl (by decide) rfl rfl rfl (Nat.le_of_ble_eq_true rfl) (fun _ _ => rfl) rfl ?_
  show SW sc m_X7_goThrough _ _ _ 38 [some (.ref r0), some (.int l1), none, none, none, none] [] g7 P
  refine sw_iconst (v := (-1)) dX7_goThrough_38 (by decide) ?_
  refine sw_istore_n dX7_goThrough_39 (by decide) rfl ?_
  show SW sc m_X7_goThrough _ _ _ 40 [some (.ref r0), some (.int l1), some (.int (-1)), none, none, none] [] g7 P
  refine sw_iconst (v := 0) dX7_goThrough_40 (by decide) ?_
  refine sw_istore_n dX7_goThrough_41 (by decide) rfl ?_
  show SW sc m_X7_goThrough _ _ _ 42 [some (.ref r0), some (.int l1), some (.int (-1)), some (.int 0), none, none] [] g7 P
  refine sw_iconst (v := 0) dX7_goThrough_42 (by decide) ?_
  refine sw_istore dX7_goThrough_43 (by decide) rfl ?_
  show SW sc m_X7_goThrough _ _ _ 45 [some (.ref r0), some (.int l1), some (.int (-1)), some (.int 0), some (.int 0), none] [] g7 P
  exact (k)
theorem b_X7_goThrough_45 {r0 : Nat} {l1 : Int32} {l2 : Int32} {l3 : Int32} {l4 : Int32} {v3 : Int32} {g3 : ab_H} (hm3 : MSE m_X9_treesWith d [.int l1] h (some (.int v3)) g3) (kt : v3 ≤ l4 → SW sc m_X7_goThrough (d + 1) rc rs 152 [some (.ref r0), some (.int l1), some (.int l2), some (.int l3), none, none] [] g3 P) (kf : ¬ (v3 ≤ l4) → SW sc m_X7_goThrough (d + 1) rc rs 54 [some (.ref r0), some (.int l1), some (.int l2), some (.int l3), some (.int l4), none] [] g3 P) : SW sc m_X7_goThrough (d + 1) rc rs 45 [some (.ref r0), some (.int l1), some (.int l2), some (.int l3), some (.int l4), none] [] h P := by
  refine sw_iload dX7_goThrough_45 rfl ?_
  refine sw_iload_n dX7_goThrough_47 rfl ?_
  refine sw_cS (M := m_X7_goThrough) dX7_goThrough_48 ls_X7_51 hm3 rfl rfl (Nat.le_of_ble_eq_true rfl) (fun _ _ => rfl) rfl ?_
  show SW sc m_X7_goThrough _ _ _ 51 [some (.ref r0), some (.int l1), some (.int l2), some (.int l3), some (.int l4), none] [.int v3, .int l4] g3 P
  exact sw_icmp_ge dX7_goThrough_51 (by decide) (fun q => (sw_fg [false, false, false, false, true, false] rfl (kt q))) (fun q => (kf q))
theorem b_X7_goThrough_54 {r0 : Nat} {l1 : Int32} {l2 : Int32} {l3 : Int32} {l4 : Int32} {fs2 : List Value} {a2 : Nat} {g5 : ab_H} {fs5 : List Value} {fs7 : List Value} {a7 : Nat} {fs9 : List Value} {a9 : Nat} {g10 : ab_H} {fs10 : List Value} {fs12 : List Value} {a12 : Nat} {fs13 : List Value} {x13 : Int32} {fs16 : List Value} {a16 : Nat} {fs18 : List Value} {a18 : Nat} {fs20 : List Value} {a20 : Nat} {fs22 : List Value} {a22 : Nat} {v23 : Int32} {g23 : ab_H} {fs23 : List Value} {v24 : Int32} {g24 : ab_H} {fs24 : List Value} {v25 : Int32} {g25 : ab_H} {fs25 : List Value} {fs28 : List Value} {a28 : Nat} {fs29 : List Value} {x29 : Int32} (hc2 : (h)[r0]? = some (7, fs2)) (hv2 : fs2[2]? = some (.ref a2)) (hr5 : (h)[a2]? = some (1, fs5)) (hm5 : MSE m_X1_setRank d [.ref a2, .int l1, .int l4] h none g5) (hc7 : (g5)[r0]? = some (7, fs7)) (hv7 : fs7[2]? = some (.ref a7)) (hc9 : (g5)[r0]? = some (7, fs9)) (hv9 : fs9[1]? = some (.ref a9)) (hr10 : (g5)[a7]? = some (1, fs10)) (hm10 : MSE m_X1_plant d [.ref a7, .ref a9] g5 none g10) (hc12 : (g10)[r0]? = some (7, fs12)) (hv12 : fs12[4]? = some (.ref a12)) (hc13 : (g10)[a12]? = some (4, fs13)) (hv13 : fs13[1]? = some (.int x13)) (hc16 : (g10)[r0]? = some (7, fs16)) (hv16 : fs16[4]? = some (.ref a16)) (hc18 : (g10)[r0]? = some (7, fs18)) (hv18 : fs18[3]? = some (.ref a18)) (hc20 : (g10)[r0]? = some (7, fs20)) (hv20 : fs20[1]? = some (.ref a20)) (hc22 : (g10)[r0]? = some (7, fs22)) (hv22 : fs22[1]? = some (.ref a22)) (hr23 : (g10)[a22]? = some (3, fs23)) (hm23 : MSE m_X3_all d [.ref a22] g10 (some (.int v23)) g23) (hr24 : (g23)[a18]? = some (8, fs24)) (hm24 : MSE m_X8_wordOf d [.ref a18, .ref a20, .int v23] g23 (some (.int v24)) g24) (hr25 : (g24)[a16]? = some (4, fs25)) (hm25 : MSE m_X4_numberOf d [.ref a16, .int v24] g24 (some (.int v25)) g25) (hc28 : (g25)[r0]? = some (7, fs28)) (hv28 : fs28[4]? = some (.ref a28)) (hc29 : (g25)[a28]? = some (4, fs29)) (hv29 : fs29[1]? = some (.int x29)) (kt : x29 ≤ x13 → SW sc m_X7_goThrough (d + 1) rc rs 127 [some (.ref r0), some (.int l1), some (.int l2), some (.int l3), some (.int l4), none] [] g25 P) (kf : ¬ (x29 ≤ x13) → SW sc m_X7_goThrough (d + 1) rc rs 122 [some (.ref r0), some (.int l1), none, some (.int l3), some (.int l4), none] [] g25 P) : SW sc m_X7_goThrough (d + 1) rc rs 54 [some (.ref r0), some (.int l1), some (.int l2), some (.int l3), some (.int l4), none] [] h P := by
  refine sw_aload_n dX7_goThrough_54 rfl ?_
  refine sw_getf dX7_goThrough_55 lf_X7_26 hc2 hv2 ?_
  refine sw_iload_n dX7_goThrough_58 rfl ?_
  refine sw_iload dX7_goThrough_59 rfl ?_
  refine sw_cV (M := m_X7_goThrough) dX7_goThrough_61 lv_X7_55 hm5 hr5 rfl (by decide) rfl rfl rfl (Nat.le_of_ble_eq_true rfl) (fun _ _ => rfl) rfl ?_
  show SW sc m_X7_goThrough _ _ _ 64 [some (.ref r0), some (.int l1), some (.int l2), some (.int l3), some (.int l4), none] [] g5 P
  refine sw_aload_n dX7_goThrough_64 rfl ?_
  refine sw_getf dX7_goThrough_65 lf_X7_26 hc7 hv7 ?_
  refine sw_aload_n dX7_goThrough_68 rfl ?_
  refine sw_getf dX7_goThrough_69 lf_X7_19 hc9 hv9 ?_
  refine sw_cV (M := m_X7_goThrough) dX7_goThrough_72 lv_X7_59 hm10 hr10 rfl (by decide) rfl rfl rfl (Nat.le_of_ble_eq_true rfl) (fun _ _ => rfl) rfl ?_
  show SW sc m_X7_goThrough _ _ _ 75 [some (.ref r0), some (.int l1), some (.int l2), some (.int l3), some (.int l4), none] [] g10 P
  refine sw_aload_n dX7_goThrough_75 rfl ?_
  refine sw_getf dX7_goThrough_76 lf_X7_40 hc12 hv12 ?_
  refine sw_getf dX7_goThrough_79 lf_X7_63 hc13 hv13 ?_
  refine sw_istore dX7_goThrough_82 (by decide) rfl ?_
  show SW sc m_X7_goThrough _ _ _ 84 [some (.ref r0), some (.int l1), some (.int l2), some (.int l3), some (.int l4), some (.int x13)] [] g10 P
  refine sw_aload_n dX7_goThrough_84 rfl ?_
  refine sw_getf dX7_goThrough_85 lf_X7_40 hc16 hv16 ?_
  refine sw_aload_n dX7_goThrough_88 rfl ?_
  refine sw_getf dX7_goThrough_89 lf_X7_33 hc18 hv18 ?_
  refine sw_aload_n dX7_goThrough_92 rfl ?_
  refine sw_getf dX7_goThrough_93 lf_X7_19 hc20 hv20 ?_
  refine sw_aload_n dX7_goThrough_96 rfl ?_
  refine sw_getf dX7_goThrough_97 lf_X7_19 hc22 hv22 ?_
  refine sw_cV (M := m_X7_goThrough) dX7_goThrough_100 lv_X7_67 hm23 hr23 rfl (by decide) rfl rfl rfl (Nat.le_of_ble_eq_true rfl) (fun _ _ => rfl) rfl ?_
  show SW sc m_X7_goThrough _ _ _ 103 [some (.ref r0), some (.int l1), some (.int l2), some (.int l3), some (.int l4), some (.int x13)] [.int v23, .ref a20, .ref a18, .ref a16] g23 P
  refine sw_cV (M := m_X7_goThrough) dX7_goThrough_103 lv_X7_71 hm24 hr24 rfl (by decide) rfl rfl rfl (Nat.le_of_ble_eq_true rfl) (fun _ _ => rfl) rfl ?_
  show SW sc m_X7_goThrough _ _ _ 106 [some (.ref r0), some (.int l1), some (.int l2), some (.int l3), some (.int l4), some (.int x13)] [.int v24, .ref a16] g24 P
  refine sw_cV (M := m_X7_goThrough) dX7_goThrough_106 lv_X7_75 hm25 hr25 rfl (by decide) rfl rfl rfl (Nat.le_of_ble_eq_true rfl) (fun _ _ => rfl) rfl ?_
  show SW sc m_X7_goThrough _ _ _ 109 [some (.ref r0), some (.int l1), some (.int l2), some (.int l3), some (.int l4), some (.int x13)] [.int v25] g25 P
  refine sw_pop dX7_goThrough_109 (fun _ _ => rfl) ?_
  refine sw_aload_n dX7_goThrough_110 rfl ?_
  refine sw_getf dX7_goThrough_111 lf_X7_40 hc28 hv28 ?_
  refine sw_getf dX7_goThrough_114 lf_X7_63 hc29 hv29 ?_
  refine sw_iload dX7_goThrough_117 rfl ?_
  exact sw_icmp_le dX7_goThrough_119 (by decide) (fun q => (sw_fg [false, false, false, false, false, true] rfl (kt q))) (fun q => (sw_fg [false, false, true, false, false, true] rfl (kf q)))
theorem b_X7_goThrough_122 {r0 : Nat} {l1 : Int32} {l3 : Int32} {l4 : Int32} (k : SW sc m_X7_goThrough d rc rs 128 [some (.ref r0), some (.int l1), none, some (.int l3), some (.int l4), none] [.int l4] h P) : SW sc m_X7_goThrough d rc rs 122 [some (.ref r0), some (.int l1), none, some (.int l3), some (.int l4), none] [] h P := by
  refine sw_iload dX7_goThrough_122 rfl ?_
  exact sw_goto dX7_goThrough_124 (by decide) (k)
theorem b_X7_goThrough_127 {r0 : Nat} {l1 : Int32} {l2 : Int32} {l3 : Int32} {l4 : Int32} (k : SW sc m_X7_goThrough d rc rs 128 [some (.ref r0), some (.int l1), none, some (.int l3), some (.int l4), none] [.int l2] h P) : SW sc m_X7_goThrough d rc rs 127 [some (.ref r0), some (.int l1), some (.int l2), some (.int l3), some (.int l4), none] [] h P := by
  refine sw_iload_n dX7_goThrough_127 rfl ?_
  exact (sw_fg [false, false, true, false, false, false] rfl (k))
theorem b_X7_goThrough_128 {r0 : Nat} {l1 : Int32} {l3 : Int32} {l4 : Int32} {s0 : Int32} {fs4 : List Value} {a4 : Nat} {fs6 : List Value} {a6 : Nat} {v7 : Int32} {g7 : ab_H} {fs7 : List Value} {v8 : Int32} {g8 : ab_H} {fs8 : List Value} (hc4 : (h)[r0]? = some (7, fs4)) (hv4 : fs4[1]? = some (.ref a4)) (hc6 : (h)[r0]? = some (7, fs6)) (hv6 : fs6[1]? = some (.ref a6)) (hr7 : (h)[a6]? = some (3, fs7)) (hm7 : MSE m_X3_all d [.ref a6] h (some (.int v7)) g7) (hr8 : (g7)[a4]? = some (3, fs8)) (hm8 : MSE m_X3_diameter d [.ref a4, .int v7] g7 (some (.int v8)) g8) (k : SW sc m_X7_goThrough (d + 1) rc rs 45 [some (.ref r0), some (.int l1), some (.int s0), some (.int (l3 + v8)), some (.int (l4 + 1)), none] [] g8 P) : SW sc m_X7_goThrough (d + 1) rc rs 128 [some (.ref r0), some (.int l1), none, some (.int l3), some (.int l4), none] [.int s0] h P := by
  refine sw_istore_n dX7_goThrough_128 (by decide) rfl ?_
  show SW sc m_X7_goThrough _ _ _ 129 [some (.ref r0), some (.int l1), some (.int s0), some (.int l3), some (.int l4), none] [] h P
  refine sw_iload_n dX7_goThrough_129 rfl ?_
  refine sw_aload_n dX7_goThrough_130 rfl ?_
  refine sw_getf dX7_goThrough_131 lf_X7_19 hc4 hv4 ?_
  refine sw_aload_n dX7_goThrough_134 rfl ?_
  refine sw_getf dX7_goThrough_135 lf_X7_19 hc6 hv6 ?_
  refine sw_cV (M := m_X7_goThrough) dX7_goThrough_138 lv_X7_67 hm7 hr7 rfl (by decide) rfl rfl rfl (Nat.le_of_ble_eq_true rfl) (fun _ _ => rfl) rfl ?_
  show SW sc m_X7_goThrough _ _ _ 141 [some (.ref r0), some (.int l1), some (.int s0), some (.int l3), some (.int l4), none] [.int v7, .ref a4, .int l3] g7 P
  refine sw_cV (M := m_X7_goThrough) dX7_goThrough_141 lv_X7_78 hm8 hr8 rfl (by decide) rfl rfl rfl (Nat.le_of_ble_eq_true rfl) (fun _ _ => rfl) rfl ?_
  show SW sc m_X7_goThrough _ _ _ 144 [some (.ref r0), some (.int l1), some (.int s0), some (.int l3), some (.int l4), none] [.int v8, .int l3] g8 P
  refine sw_iadd dX7_goThrough_144 ?_
  refine sw_istore_n dX7_goThrough_145 (by decide) rfl ?_
  show SW sc m_X7_goThrough _ _ _ 146 [some (.ref r0), some (.int l1), some (.int s0), some (.int (l3 + v8)), some (.int l4), none] [] g8 P
  refine sw_iinc (v := l4 + 1) dX7_goThrough_146 rfl rfl (by decide) rfl ?_
  show SW sc m_X7_goThrough _ _ _ 149 [some (.ref r0), some (.int l1), some (.int s0), some (.int (l3 + v8)), some (.int (l4 + 1)), none] [] g8 P
  exact sw_goto dX7_goThrough_149 (by decide) (k)
theorem b_X7_goThrough_152 {r0 : Nat} {l1 : Int32} {l2 : Int32} {l3 : Int32} {fs2 : List Value} {a2 : Nat} {vs4 : List Value} {a4 : Nat} {fs7 : List Value} {a7 : Nat} {fs8 : List Value} {x8 : Int32} {vs9 : List Value} {fs11 : List Value} {a11 : Nat} {vs13 : List Value} {a13 : Nat} {vs16 : List Value} {fs18 : List Value} {a18 : Nat} {vs20 : List Value} {a20 : Nat} {vs23 : List Value} (hc2 : (h)[r0]? = some (7, fs2)) (hv2 : fs2[0]? = some (.ref a2)) (hc4 : (h)[a2]? = some (104, vs4)) (ho4 : ¬ l1 < 0) (hi4 : vs4[l1.toNatClampNeg]? = some (.ref a4)) (hc7 : (h)[r0]? = some (7, fs7)) (hv7 : fs7[4]? = some (.ref a7)) (hc8 : (h)[a7]? = some (4, fs8)) (hv8 : fs8[1]? = some (.int x8)) (hc9 : (h)[a4]? = some (100, vs9)) (ho9 : ¬ (0 : Int32) < 0) (hl9 : (0 : Int32).toNatClampNeg < vs9.length) (hc11 : ((h).set a4 (100, vs9.set (0 : Int32).toNatClampNeg (.int x8)))[r0]? = some (7, fs11)) (hv11 : fs11[0]? = some (.ref a11)) (hc13 : ((h).set a4 (100, vs9.set (0 : Int32).toNatClampNeg (.int x8)))[a11]? = some (104, vs13)) (ho13 : ¬ l1 < 0) (hi13 : vs13[l1.toNatClampNeg]? = some (.ref a13)) (hc16 : ((h).set a4 (100, vs9.set (0 : Int32).toNatClampNeg (.int x8)))[a13]? = some (100, vs16)) (ho16 : ¬ (1 : Int32) < 0) (hl16 : (1 : Int32).toNatClampNeg < vs16.length) (hc18 : (((h).set a4 (100, vs9.set (0 : Int32).toNatClampNeg (.int x8))).set a13 (100, vs16.set (1 : Int32).toNatClampNeg (.int l2)))[r0]? = some (7, fs18)) (hv18 : fs18[0]? = some (.ref a18)) (hc20 : (((h).set a4 (100, vs9.set (0 : Int32).toNatClampNeg (.int x8))).set a13 (100, vs16.set (1 : Int32).toNatClampNeg (.int l2)))[a18]? = some (104, vs20)) (ho20 : ¬ l1 < 0) (hi20 : vs20[l1.toNatClampNeg]? = some (.ref a20)) (hc23 : (((h).set a4 (100, vs9.set (0 : Int32).toNatClampNeg (.int x8))).set a13 (100, vs16.set (1 : Int32).toNatClampNeg (.int l2)))[a20]? = some (100, vs23)) (ho23 : ¬ (2 : Int32) < 0) (hl23 : (2 : Int32).toNatClampNeg < vs23.length) (hP : P (.inl none) ((((h).set a4 (100, vs9.set (0 : Int32).toNatClampNeg (.int x8))).set a13 (100, vs16.set (1 : Int32).toNatClampNeg (.int l2))).set a20 (100, vs23.set (2 : Int32).toNatClampNeg (.int l3)))) : SW sc m_X7_goThrough d rc rs 152 [some (.ref r0), some (.int l1), some (.int l2), some (.int l3), none, none] [] h P := by
  refine sw_aload_n dX7_goThrough_152 rfl ?_
  refine sw_getf dX7_goThrough_153 lf_X7_11 hc2 hv2 ?_
  refine sw_iload_n dX7_goThrough_156 rfl ?_
  refine sw_aald dX7_goThrough_157 hc4 ho4 hi4 ?_
  refine sw_iconst (v := 0) dX7_goThrough_158 (by decide) ?_
  refine sw_aload_n dX7_goThrough_159 rfl ?_
  refine sw_getf dX7_goThrough_160 lf_X7_40 hc7 hv7 ?_
  refine sw_getf dX7_goThrough_163 lf_X7_63 hc8 hv8 ?_
  refine sw_iast dX7_goThrough_166 hc9 ho9 hl9 ?_
  refine sw_aload_n dX7_goThrough_167 rfl ?_
  refine sw_getf dX7_goThrough_168 lf_X7_11 hc11 hv11 ?_
  refine sw_iload_n dX7_goThrough_171 rfl ?_
  refine sw_aald dX7_goThrough_172 hc13 ho13 hi13 ?_
  refine sw_iconst (v := 1) dX7_goThrough_173 (by decide) ?_
  refine sw_iload_n dX7_goThrough_174 rfl ?_
  refine sw_iast dX7_goThrough_175 hc16 ho16 hl16 ?_
  refine sw_aload_n dX7_goThrough_176 rfl ?_
  refine sw_getf dX7_goThrough_177 lf_X7_11 hc18 hv18 ?_
  refine sw_iload_n dX7_goThrough_180 rfl ?_
  refine sw_aald dX7_goThrough_181 hc20 ho20 hi20 ?_
  refine sw_iconst (v := 2) dX7_goThrough_182 (by decide) ?_
  refine sw_iload_n dX7_goThrough_183 rfl ?_
  refine sw_iast dX7_goThrough_184 hc23 ho23 hl23 ?_
  exact sw_ret (v := none) dX7_goThrough_185 rt_v hP
theorem b_X8_signAt_0 {l0 : Int32} {l1 : Int32} {v5 : Int32} {g5 : ab_H} (hm5 : MSE m_X9_holds d [.int l0, .int (19 - l1)] h (some (.int v5)) g5) (kt : v5 = 0 → SW sc m_X8_signAt (d + 1) rc rs 16 [none, none] [] g5 P) (kf : ¬ (v5 = 0) → SW sc m_X8_signAt (d + 1) rc rs 11 [none, none] [] g5 P) : SW sc m_X8_signAt (d + 1) rc rs 0 [some (.int l0), some (.int l1)] [] h P := by
  refine sw_iload_n dX8_signAt_0 rfl ?_
  refine sw_bipush (v := 19) dX8_signAt_1 (by decide) ?_
  refine sw_iload_n dX8_signAt_3 rfl ?_
  refine sw_isub dX8_signAt_4 ?_
  refine sw_cS (M := m_X8_signAt) dX8_signAt_5 ls_X8_34 hm5 rfl rfl (Nat.le_of_ble_eq_true rfl) (fun _ _ => rfl) rfl ?_
  show SW sc m_X8_signAt _ _ _ 8 [some (.int l0), some (.int l1)] [.int v5] g5 P
  exact sw_if_eq dX8_signAt_8 (by decide) (fun q => (sw_fg [true, true] rfl (kt q))) (fun q => (sw_fg [true, true] rfl (kf q)))
theorem b_X8_signAt_11  (k : SW sc m_X8_signAt d rc rs 18 [none, none] [.int 41] h P) : SW sc m_X8_signAt d rc rs 11 [none, none] [] h P := by
  refine sw_bipush (v := 41) dX8_signAt_11 (by decide) ?_
  exact sw_goto dX8_signAt_13 (by decide) (k)
theorem b_X8_signAt_16  (k : SW sc m_X8_signAt d rc rs 18 [none, none] [.int 40] h P) : SW sc m_X8_signAt d rc rs 16 [none, none] [] h P := by
  refine sw_bipush (v := 40) dX8_signAt_16 (by decide) ?_
  exact (k)
theorem b_X8_signAt_18 {s0 : Int32} (hP : P (.inl (some (.int s0))) h) : SW sc m_X8_signAt d rc rs 18 [none, none] [.int s0] h P := by
  exact sw_ret (v := (some (.int s0))) dX8_signAt_18 rt_i hP
theorem b_X8_wordFrom_0 {r0 : Nat} {r1 : Nat} {l2 : Int32} {v3 : Int32} {g3 : ab_H} {fs3 : List Value} (hr3 : (h)[r1]? = some (3, fs3)) (hm3 : MSE m_X3_isVertex d [.ref r1, .int l2] h (some (.int v3)) g3) (kt : ¬ v3 = 0 → SW sc m_X8_wordFrom (d + 1) rc rs 10 [some (.ref r0), some (.ref r1), some (.int l2), none, none, none] [] g3 P) (kf : v3 = 0 → SW sc m_X8_wordFrom (d + 1) rc rs 8 [none, none, none, none, none, none] [] g3 P) : SW sc m_X8_wordFrom (d + 1) rc rs 0 [some (.ref r0), some (.ref r1), some (.int l2), none, none, none] [] h P := by
  refine sw_aload_n dX8_wordFrom_0 rfl ?_
  refine sw_iload_n dX8_wordFrom_1 rfl ?_
  refine sw_cV (M := m_X8_wordFrom) dX8_wordFrom_2 lv_X8_38 hm3 hr3 rfl (by decide) rfl rfl rfl (Nat.le_of_ble_eq_true rfl) (fun _ _ => rfl) rfl ?_
  show SW sc m_X8_wordFrom _ _ _ 5 [some (.ref r0), some (.ref r1), some (.int l2), none, none, none] [.int v3] g3 P
  exact sw_if_ne dX8_wordFrom_5 (by decide) (fun q => (kt q)) (fun q => (sw_fg [true, true, true, false, false, false] rfl (kf q)))
theorem b_X8_wordFrom_8  (hP : P (.inl (some (.int (-1)))) h) : SW sc m_X8_wordFrom d rc rs 8 [none, none, none, none, none, none] [] h P := by
  refine sw_iconst (v := (-1)) dX8_wordFrom_8 (by decide) ?_
  exact sw_ret (v := (some (.int (-1)))) dX8_wordFrom_9 rt_i hP
theorem b_X8_wordFrom_10 {r0 : Nat} {r1 : Nat} {l2 : Int32} {v6 : Int32} {g6 : ab_H} {fs6 : List Value} (hr6 : (h)[r0]? = some (8, fs6)) (hm6 : MSE m_X8_layLevels d [.ref r0, .ref r1, .int l2] h (some (.int v6)) g6) (k : SW sc m_X8_wordFrom (d + 1) rc rs 22 [some (.ref r0), some (.ref r1), some (.int l2), some (.int 0), some (.int (v6 - 1)), none] [] g6 P) : SW sc m_X8_wordFrom (d + 1) rc rs 10 [some (.ref r0), some (.ref r1), some (.int l2), none, none, none] [] h P := by
  refine sw_iconst (v := 0) dX8_wordFrom_10 (by decide) ?_
  refine sw_istore_n dX8_wordFrom_11 (by decide) rfl ?_
  show SW sc m_X8_wordFrom _ _ _ 12 [some (.ref r0), some (.ref r1), some (.int l2), some (.int 0), none, none] [] h P
  refine sw_aload_n dX8_wordFrom_12 rfl ?_
  refine sw_aload_n dX8_wordFrom_13 rfl ?_
  refine sw_iload_n dX8_wordFrom_14 rfl ?_
  refine sw_cV (M := m_X8_wordFrom) dX8_wordFrom_15 lv_X8_44 hm6 hr6 rfl (by decide) rfl rfl rfl (Nat.le_of_ble_eq_true rfl) (fun _ _ => rfl) rfl ?_
  show SW sc m_X8_wordFrom _ _ _ 18 [some (.ref r0), some (.ref r1), some (.int l2), some (.int 0), none, none] [.int v6] g6 P
  refine sw_iconst (v := 1) dX8_wordFrom_18 (by decide) ?_
  refine sw_isub dX8_wordFrom_19 ?_
  refine sw_istore dX8_wordFrom_20 (by decide) rfl ?_
  show SW sc m_X8_wordFrom _ _ _ 22 [some (.ref r0), some (.ref r1), some (.int l2), some (.int 0), some (.int (v6 - 1)), none] [] g6 P
  exact (k)
theorem b_X8_wordFrom_22 {r0 : Nat} {r1 : Nat} {l2 : Int32} {l3 : Int32} {l4 : Int32} (kt : l4 < 0 → SW sc m_X8_wordFrom d rc rs 88 [some (.ref r0), none, some (.int l2), none, none, none] [] h P) (kf : ¬ (l4 < 0) → SW sc m_X8_wordFrom d rc rs 27 [some (.ref r0), some (.ref r1), some (.int l2), some (.int l3), some (.int l4), none] [] h P) : SW sc m_X8_wordFrom d rc rs 22 [some (.ref r0), some (.ref r1), some (.int l2), some (.int l3), some (.int l4), none] [] h P := by
  refine sw_iload dX8_wordFrom_22 rfl ?_
  exact sw_if_lt dX8_wordFrom_24 (by decide) (fun q => (sw_fg [false, true, false, true, true, false] rfl (kt q))) (fun q => (kf q))
theorem b_X8_wordFrom_27 {r0 : Nat} {r1 : Nat} {l2 : Int32} {l3 : Int32} {l4 : Int32} (k : SW sc m_X8_wordFrom d rc rs 30 [some (.ref r0), some (.ref r1), some (.int l2), some (.int l3), some (.int l4), some (.int 0)] [] h P) : SW sc m_X8_wordFrom d rc rs 27 [some (.ref r0), some (.ref r1), some (.int l2), some (.int l3), some (.int l4), none] [] h P := by
  refine sw_iconst (v := 0) dX8_wordFrom_27 (by decide) ?_
  refine sw_istore dX8_wordFrom_28 (by decide) rfl ?_
  show SW sc m_X8_wordFrom _ _ _ 30 [some (.ref r0), some (.ref r1), some (.int l2), some (.int l3), some (.int l4), some (.int 0)] [] h P
  exact (k)
theorem b_X8_wordFrom_30 {r0 : Nat} {r1 : Nat} {l2 : Int32} {l3 : Int32} {l4 : Int32} {l5 : Int32} {fs3 : List Value} {x3 : Int32} (hc3 : (h)[r1]? = some (3, fs3)) (hv3 : fs3[2]? = some (.int x3)) (kt : x3 ≤ l5 → SW sc m_X8_wordFrom d rc rs 74 [some (.ref r0), some (.ref r1), some (.int l2), none, some (.int l4), none] [] h P) (kf : ¬ (x3 ≤ l5) → SW sc m_X8_wordFrom d rc rs 39 [some (.ref r0), some (.ref r1), some (.int l2), some (.int l3), some (.int l4), some (.int l5)] [] h P) : SW sc m_X8_wordFrom d rc rs 30 [some (.ref r0), some (.ref r1), some (.int l2), some (.int l3), some (.int l4), some (.int l5)] [] h P := by
  refine sw_iload dX8_wordFrom_30 rfl ?_
  refine sw_aload_n dX8_wordFrom_32 rfl ?_
  refine sw_getf dX8_wordFrom_33 lf_X8_48 hc3 hv3 ?_
  exact sw_icmp_ge dX8_wordFrom_36 (by decide) (fun q => (sw_fg [false, false, false, true, false, true] rfl (kt q))) (fun q => (kf q))
theorem b_X8_wordFrom_39 {r0 : Nat} {r1 : Nat} {l2 : Int32} {l3 : Int32} {l4 : Int32} {l5 : Int32} {fs2 : List Value} {a2 : Nat} {vs4 : List Value} {x4 : Int32} {v6 : Int32} {g6 : ab_H} (hc2 : (h)[r0]? = some (8, fs2)) (hv2 : fs2[0]? = some (.ref a2)) (hc4 : (h)[a2]? = some (100, vs4)) (ho4 : ¬ l4 < 0) (hi4 : vs4[l4.toNatClampNeg]? = some (.int x4)) (hm6 : MSE m_X9_holds d [.int x4, .int l5] h (some (.int v6)) g6) (kt : v6 = 0 → SW sc m_X8_wordFrom (d + 1) rc rs 68 [some (.ref r0), some (.ref r1), some (.int l2), some (.int l3), some (.int l4), some (.int l5)] [] g6 P) (kf : ¬ (v6 = 0) → SW sc m_X8_wordFrom (d + 1) rc rs 54 [some (.ref r0), some (.ref r1), some (.int l2), some (.int l3), some (.int l4), some (.int l5)] [] g6 P) : SW sc m_X8_wordFrom (d + 1) rc rs 39 [some (.ref r0), some (.ref r1), some (.int l2), some (.int l3), some (.int l4), some (.int l5)] [] h P := by
  refine sw_aload_n dX8_wordFrom_39 rfl ?_
  refine sw_getf dX8_wordFrom_40 lf_X8_9 hc2 hv2 ?_
  refine sw_iload dX8_wordFrom_43 rfl ?_
  refine sw_iald dX8_wordFrom_45 hc4 ho4 hi4 ?_
  refine sw_iload dX8_wordFrom_46 rfl ?_
  refine sw_cS (M := m_X8_wordFrom) dX8_wordFrom_48 ls_X8_34 hm6 rfl rfl (Nat.le_of_ble_eq_true rfl) (fun _ _ => rfl) rfl ?_
  show SW sc m_X8_wordFrom _ _ _ 51 [some (.ref r0), some (.ref r1), some (.int l2), some (.int l3), some (.int l4), some (.int l5)] [.int v6] g6 P
  exact sw_if_eq dX8_wordFrom_51 (by decide) (fun q => (kt q)) (fun q => (kf q))
theorem b_X8_wordFrom_54 {r0 : Nat} {r1 : Nat} {l2 : Int32} {l3 : Int32} {l4 : Int32} {l5 : Int32} {v5 : Int32} {g5 : ab_H} {fs5 : List Value} {g8 : ab_H} {fs8 : List Value} (hr5 : (h)[r1]? = some (3, fs5)) (hm5 : MSE m_X3_nearOf d [.ref r1, .int l5] h (some (.int v5)) g5) (hr8 : (g5)[r0]? = some (8, fs8)) (hm8 : MSE m_X8_assemble d [.ref r0, .int l5, .int (v5 &&& l3)] g5 none g8) (k : SW sc m_X8_wordFrom (d + 1) rc rs 68 [some (.ref r0), some (.ref r1), some (.int l2), some (.int l3), some (.int l4), some (.int l5)] [] g8 P) : SW sc m_X8_wordFrom (d + 1) rc rs 54 [some (.ref r0), some (.ref r1), some (.int l2), some (.int l3), some (.int l4), some (.int l5)] [] h P := by
  refine sw_aload_n dX8_wordFrom_54 rfl ?_
  refine sw_iload dX8_wordFrom_55 rfl ?_
  refine sw_aload_n dX8_wordFrom_57 rfl ?_
  refine sw_iload dX8_wordFrom_58 rfl ?_
  refine sw_cV (M := m_X8_wordFrom) dX8_wordFrom_60 lv_X8_52 hm5 hr5 rfl (by decide) rfl rfl rfl (Nat.le_of_ble_eq_true rfl) (fun _ _ => rfl) rfl ?_
  show SW sc m_X8_wordFrom _ _ _ 63 [some (.ref r0), some (.ref r1), some (.int l2), some (.int l3), some (.int l4), some (.int l5)] [.int v5, .int l5, .ref r0] g5 P
  refine sw_iload_n dX8_wordFrom_63 rfl ?_
  refine sw_iand dX8_wordFrom_64 ?_
  refine sw_cV (M := m_X8_wordFrom) dX8_wordFrom_65 lv_X8_56 hm8 hr8 rfl (by decide) rfl rfl rfl (Nat.le_of_ble_eq_true rfl) (fun _ _ => rfl) rfl ?_
  show SW sc m_X8_wordFrom _ _ _ 68 [some (.ref r0), some (.ref r1), some (.int l2), some (.int l3), some (.int l4), some (.int l5)] [] g8 P
  exact (k)
theorem b_X8_wordFrom_68 {r0 : Nat} {r1 : Nat} {l2 : Int32} {l3 : Int32} {l4 : Int32} {l5 : Int32} (k : SW sc m_X8_wordFrom d rc rs 30 [some (.ref r0), some (.ref r1), some (.int l2), some (.int l3), some (.int l4), some (.int (l5 + 1))] [] h P) : SW sc m_X8_wordFrom d rc rs 68 [some (.ref r0), some (.ref r1), some (.int l2), some (.int l3), some (.int l4), some (.int l5)] [] h P := by
  refine sw_iinc (v := l5 + 1) dX8_wordFrom_68 rfl rfl (by decide) rfl ?_
  show SW sc m_X8_wordFrom _ _ _ 71 [some (.ref r0), some (.ref r1), some (.int l2), some (.int l3), some (.int l4), some (.int (l5 + 1))] [] h P
  exact sw_goto dX8_wordFrom_71 (by decide) (k)
theorem b_X8_wordFrom_74 {r0 : Nat} {r1 : Nat} {l2 : Int32} {l4 : Int32} {fs2 : List Value} {a2 : Nat} {vs4 : List Value} {x4 : Int32} (hc2 : (h)[r0]? = some (8, fs2)) (hv2 : fs2[0]? = some (.ref a2)) (hc4 : (h)[a2]? = some (100, vs4)) (ho4 : ¬ l4 < 0) (hi4 : vs4[l4.toNatClampNeg]? = some (.int x4)) (k : SW sc m_X8_wordFrom d rc rs 22 [some (.ref r0), some (.ref r1), some (.int l2), some (.int x4), some (.int (l4 + (-1))), none] [] h P) : SW sc m_X8_wordFrom d rc rs 74 [some (.ref r0), some (.ref r1), some (.int l2), none, some (.int l4), none] [] h P := by
  refine sw_aload_n dX8_wordFrom_74 rfl ?_
  refine sw_getf dX8_wordFrom_75 lf_X8_9 hc2 hv2 ?_
  refine sw_iload dX8_wordFrom_78 rfl ?_
  refine sw_iald dX8_wordFrom_80 hc4 ho4 hi4 ?_
  refine sw_istore_n dX8_wordFrom_81 (by decide) rfl ?_
  show SW sc m_X8_wordFrom _ _ _ 82 [some (.ref r0), some (.ref r1), some (.int l2), some (.int x4), some (.int l4), none] [] h P
  refine sw_iinc (v := l4 + (-1)) dX8_wordFrom_82 rfl rfl (by decide) rfl ?_
  show SW sc m_X8_wordFrom _ _ _ 85 [some (.ref r0), some (.ref r1), some (.int l2), some (.int x4), some (.int (l4 + (-1))), none] [] h P
  exact sw_goto dX8_wordFrom_85 (by decide) (k)
theorem b_X8_wordFrom_88 {r0 : Nat} {l2 : Int32} {fs2 : List Value} {a2 : Nat} {vs4 : List Value} {x4 : Int32} (hc2 : (h)[r0]? = some (8, fs2)) (hv2 : fs2[1]? = some (.ref a2)) (hc4 : (h)[a2]? = some (100, vs4)) (ho4 : ¬ l2 < 0) (hi4 : vs4[l2.toNatClampNeg]? = some (.int x4)) (hP : P (.inl (some (.int x4))) h) : SW sc m_X8_wordFrom d rc rs 88 [some (.ref r0), none, some (.int l2), none, none, none] [] h P := by
  refine sw_aload_n dX8_wordFrom_88 rfl ?_
  refine sw_getf dX8_wordFrom_89 lf_X8_15 hc2 hv2 ?_
  refine sw_iload_n dX8_wordFrom_92 rfl ?_
  refine sw_iald dX8_wordFrom_93 hc4 ho4 hi4 ?_
  exact sw_ret (v := (some (.int x4))) dX8_wordFrom_94 rt_i hP
theorem b_X8_layLevels_0 {r0 : Nat} {r1 : Nat} {l2 : Int32} (k : SW sc m_X8_layLevels d rc rs 10 [some (.ref r0), some (.ref r1), none, some (.int 0), some (.int (1 <<< (l2 &&& 31))), some (.int 0)] [] h P) : SW sc m_X8_layLevels d rc rs 0 [some (.ref r0), some (.ref r1), some (.int l2), none, none, none] [] h P := by
  refine sw_iconst (v := 0) dX8_layLevels_0 (by decide) ?_
  refine sw_istore_n dX8_layLevels_1 (by decide) rfl ?_
  show SW sc m_X8_layLevels _ _ _ 2 [some (.ref r0), some (.ref r1), some (.int l2), some (.int 0), none, none] [] h P
  refine sw_iconst (v := 1) dX8_layLevels_2 (by decide) ?_
  refine sw_iload_n dX8_layLevels_3 rfl ?_
  refine sw_ishl dX8_layLevels_4 ?_
  refine sw_istore dX8_layLevels_5 (by decide) rfl ?_
  show SW sc m_X8_layLevels _ _ _ 7 [some (.ref r0), some (.ref r1), some (.int l2), some (.int 0), some (.int (1 <<< (l2 &&& 31))), none] [] h P
  refine sw_iconst (v := 0) dX8_layLevels_7 (by decide) ?_
  refine sw_istore dX8_layLevels_8 (by decide) rfl ?_
  show SW sc m_X8_layLevels _ _ _ 10 [some (.ref r0), some (.ref r1), some (.int l2), some (.int 0), some (.int (1 <<< (l2 &&& 31))), some (.int 0)] [] h P
  exact (sw_fg [false, false, true, false, false, false] rfl (k))
theorem b_X8_layLevels_10 {r0 : Nat} {r1 : Nat} {l3 : Int32} {l4 : Int32} {l5 : Int32} (kt : l4 = 0 → SW sc m_X8_layLevels d rc rs 54 [none, none, none, none, none, some (.int l5)] [] h P) (kf : ¬ (l4 = 0) → SW sc m_X8_layLevels d rc rs 15 [some (.ref r0), some (.ref r1), none, some (.int l3), some (.int l4), some (.int l5)] [] h P) : SW sc m_X8_layLevels d rc rs 10 [some (.ref r0), some (.ref r1), none, some (.int l3), some (.int l4), some (.int l5)] [] h P := by
  refine sw_iload dX8_layLevels_10 rfl ?_
  exact sw_if_eq dX8_layLevels_12 (by decide) (fun q => (sw_fg [true, true, false, true, true, false] rfl (kt q))) (fun q => (kf q))
theorem b_X8_layLevels_15 {r0 : Nat} {r1 : Nat} {l3 : Int32} {l4 : Int32} {l5 : Int32} (kt : 10 ≤ l5 → SW sc m_X8_layLevels d rc rs 54 [none, none, none, none, none, some (.int l5)] [] h P) (kf : ¬ (10 ≤ l5) → SW sc m_X8_layLevels d rc rs 22 [some (.ref r0), some (.ref r1), none, some (.int l3), some (.int l4), some (.int l5)] [] h P) : SW sc m_X8_layLevels d rc rs 15 [some (.ref r0), some (.ref r1), none, some (.int l3), some (.int l4), some (.int l5)] [] h P := by
  refine sw_iload dX8_layLevels_15 rfl ?_
  refine sw_bipush (v := 10) dX8_layLevels_17 (by decide) ?_
  exact sw_icmp_ge dX8_layLevels_19 (by decide) (fun q => (sw_fg [true, true, false, true, true, false] rfl (kt q))) (fun q => (kf q))
theorem b_X8_layLevels_22 {r0 : Nat} {r1 : Nat} {l3 : Int32} {l4 : Int32} {l5 : Int32} {fs2 : List Value} {a2 : Nat} {vs5 : List Value} {v13 : Int32} {g13 : ab_H} {fs13 : List Value} (hc2 : (h)[r0]? = some (8, fs2)) (hv2 : fs2[0]? = some (.ref a2)) (hc5 : (h)[a2]? = some (100, vs5)) (ho5 : ¬ l5 < 0) (hl5 : l5.toNatClampNeg < vs5.length) (hr13 : ((h).set a2 (100, vs5.set l5.toNatClampNeg (.int l4)))[r1]? = some (3, fs13)) (hm13 : MSE m_X3_withNeighbors d [.ref r1, .int l4] ((h).set a2 (100, vs5.set l5.toNatClampNeg (.int l4))) (some (.int v13)) g13) (k : SW sc m_X8_layLevels (d + 1) rc rs 10 [some (.ref r0), some (.ref r1), none, some (.int (l3 ||| l4)), some (.int (v13 &&& ((l3 ||| l4) ^^^ (-1)))), some (.int (l5 + 1))] [] g13 P) : SW sc m_X8_layLevels (d + 1) rc rs 22 [some (.ref r0), some (.ref r1), none, some (.int l3), some (.int l4), some (.int l5)] [] h P := by
  refine sw_aload_n dX8_layLevels_22 rfl ?_
  refine sw_getf dX8_layLevels_23 lf_X8_9 hc2 hv2 ?_
  refine sw_iload dX8_layLevels_26 rfl ?_
  refine sw_iload dX8_layLevels_28 rfl ?_
  refine sw_iast dX8_layLevels_30 hc5 ho5 hl5 ?_
  refine sw_iinc (v := l5 + 1) dX8_layLevels_31 rfl rfl (by decide) rfl ?_
  show SW sc m_X8_layLevels _ _ _ 34 [some (.ref r0), some (.ref r1), none, some (.int l3), some (.int l4), some (.int (l5 + 1))] [] ((h).set a2 (100, vs5.set l5.toNatClampNeg (.int l4))) P
  refine sw_iload_n dX8_layLevels_34 rfl ?_
  refine sw_iload dX8_layLevels_35 rfl ?_
  refine sw_ior dX8_layLevels_37 ?_
  refine sw_istore_n dX8_layLevels_38 (by decide) rfl ?_
  show SW sc m_X8_layLevels _ _ _ 39 [some (.ref r0), some (.ref r1), none, some (.int (l3 ||| l4)), some (.int l4), some (.int (l5 + 1))] [] ((h).set a2 (100, vs5.set l5.toNatClampNeg (.int l4))) P
  refine sw_aload_n dX8_layLevels_39 rfl ?_
  refine sw_iload dX8_layLevels_40 rfl ?_
  refine sw_cV (M := m_X8_layLevels) dX8_layLevels_42 lv_X8_60 hm13 hr13 rfl (by decide) rfl rfl rfl (Nat.le_of_ble_eq_true rfl) (fun _ _ => rfl) rfl ?_
  show SW sc m_X8_layLevels _ _ _ 45 [some (.ref r0), some (.ref r1), none, some (.int (l3 ||| l4)), some (.int l4), some (.int (l5 + 1))] [.int v13] g13 P
  refine sw_iload_n dX8_layLevels_45 rfl ?_
  refine sw_iconst (v := (-1)) dX8_layLevels_46 (by decide) ?_
  refine sw_ixor dX8_layLevels_47 ?_
  refine sw_iand dX8_layLevels_48 ?_
  refine sw_istore dX8_layLevels_49 (by decide) rfl ?_
  show SW sc m_X8_layLevels _ _ _ 51 [some (.ref r0), some (.ref r1), none, some (.int (l3 ||| l4)), some (.int (v13 &&& ((l3 ||| l4) ^^^ (-1)))), some (.int (l5 + 1))] [] g13 P
  exact sw_goto dX8_layLevels_51 (by decide) (k)
theorem b_X8_layLevels_54 {l5 : Int32} (hP : P (.inl (some (.int l5))) h) : SW sc m_X8_layLevels d rc rs 54 [none, none, none, none, none, some (.int l5)] [] h P := by
  refine sw_iload dX8_layLevels_54 rfl ?_
  exact sw_ret (v := (some (.int l5))) dX8_layLevels_56 rt_i hP
theorem b_X8_assemble_0 {r0 : Nat} {l1 : Int32} {l2 : Int32} (k : SW sc m_X8_assemble d rc rs 23 [some (.ref r0), some (.int l1), none, some (.int 0), some (.int 1), some (.int 1), some (.int (-1)), some (.int 0), some (.int 0), some (.int l2), some (.int 0), none] [] h P) : SW sc m_X8_assemble d rc rs 0 [some (.ref r0), some (.int l1), some (.int l2), none, none, none, none, none, none, none, none, none] [] h P := by
  refine sw_iconst (v := 0) dX8_assemble_0 (by decide) ?_
  refine sw_istore_n dX8_assemble_1 (by decide) rfl ?_
  show SW sc m_X8_assemble _ _ _ 2 [some (.ref r0), some (.int l1), some (.int l2), some (.int 0), none, none, none, none, none, none, none, none] [] h P
  refine sw_iconst (v := 1) dX8_assemble_2 (by decide) ?_
  refine sw_istore dX8_assemble_3 (by decide) rfl ?_
  show SW sc m_X8_assemble _ _ _ 5 [some (.ref r0), some (.int l1), some (.int l2), some (.int 0), some (.int 1), none, none, none, none, none, none, none] [] h P
  refine sw_iconst (v := 1) dX8_assemble_5 (by decide) ?_
  refine sw_istore dX8_assemble_6 (by decide) rfl ?_
  show SW sc m_X8_assemble _ _ _ 8 [some (.ref r0), some (.int l1), some (.int l2), some (.int 0), some (.int 1), some (.int 1), none, none, none, none, none, none] [] h P
  refine sw_iconst (v := (-1)) dX8_assemble_8 (by decide) ?_
  refine sw_istore dX8_assemble_9 (by decide) rfl ?_
  show SW sc m_X8_assemble _ _ _ 11 [some (.ref r0), some (.int l1), some (.int l2), some (.int 0), some (.int 1), some (.int 1), some (.int (-1)), none, none, none, none, none] [] h P
  refine sw_iconst (v := 0) dX8_assemble_11 (by decide) ?_
  refine sw_istore dX8_assemble_12 (by decide) rfl ?_
  show SW sc m_X8_assemble _ _ _ 14 [some (.ref r0), some (.int l1), some (.int l2), some (.int 0), some (.int 1), some (.int 1), some (.int (-1)), some (.int 0), none, none, none, none] [] h P
  refine sw_iconst (v := 0) dX8_assemble_14 (by decide) ?_
  refine sw_istore dX8_assemble_15 (by decide) rfl ?_
  show SW sc m_X8_assemble _ _ _ 17 [some (.ref r0), some (.int l1), some (.int l2), some (.int 0), some (.int 1), some (.int 1), some (.int (-1)), some (.int 0), some (.int 0), none, none, none] [] h P
  refine sw_iload_n dX8_assemble_17 rfl ?_
  refine sw_istore dX8_assemble_18 (by decide) rfl ?_
  show SW sc m_X8_assemble _ _ _ 20 [some (.ref r0), some (.int l1), some (.int l2), some (.int 0), some (.int 1), some (.int 1), some (.int (-1)), some (.int 0), some (.int 0), some (.int l2), none, none] [] h P
  refine sw_iconst (v := 0) dX8_assemble_20 (by decide) ?_
  refine sw_istore dX8_assemble_21 (by decide) rfl ?_
  show SW sc m_X8_assemble _ _ _ 23 [some (.ref r0), some (.int l1), some (.int l2), some (.int 0), some (.int 1), some (.int 1), some (.int (-1)), some (.int 0), some (.int 0), some (.int l2), some (.int 0), none] [] h P
  exact (sw_fg [false, false, true, false, false, false, false, false, false, false, false, false] rfl (k))
theorem b_X8_assemble_23 {r0 : Nat} {l1 : Int32} {l3 : Int32} {l4 : Int32} {l5 : Int32} {l6 : Int32} {l7 : Int32} {l8 : Int32} {l9 : Int32} {l10 : Int32} (kt : 10 ≤ l10 → SW sc m_X8_assemble d rc rs 143 [some (.ref r0), some (.int l1), none, some (.int l3), some (.int l4), some (.int l5), none, none, some (.int l8), none, none, none] [] h P) (kf : ¬ (10 ≤ l10) → SW sc m_X8_assemble d rc rs 30 [some (.ref r0), some (.int l1), none, some (.int l3), some (.int l4), some (.int l5), some (.int l6), some (.int l7), some (.int l8), some (.int l9), some (.int l10), none] [] h P) : SW sc m_X8_assemble d rc rs 23 [some (.ref r0), some (.int l1), none, some (.int l3), some (.int l4), some (.int l5), some (.int l6), some (.int l7), some (.int l8), some (.int l9), some (.int l10), none] [] h P := by
  refine sw_iload dX8_assemble_23 rfl ?_
  refine sw_bipush (v := 10) dX8_assemble_25 (by decide) ?_
  exact sw_icmp_ge dX8_assemble_27 (by decide) (fun q => (sw_fg [false, false, false, false, false, false, true, true, false, true, true, false] rfl (kt q))) (fun q => (kf q))
theorem b_X8_assemble_30 {r0 : Nat} {l1 : Int32} {l3 : Int32} {l4 : Int32} {l5 : Int32} {l6 : Int32} {l7 : Int32} {l8 : Int32} {l9 : Int32} {l10 : Int32} (kt : l9 = 0 → SW sc m_X8_assemble d rc rs 143 [some (.ref r0), some (.int l1), none, some (.int l3), some (.int l4), some (.int l5), none, none, some (.int l8), none, none, none] [] h P) (kf : ¬ (l9 = 0) → SW sc m_X8_assemble d rc rs 35 [some (.ref r0), some (.int l1), none, some (.int l3), some (.int l4), some (.int l5), some (.int l6), some (.int l7), some (.int l8), some (.int l9), some (.int l10), none] [] h P) : SW sc m_X8_assemble d rc rs 30 [some (.ref r0), some (.int l1), none, some (.int l3), some (.int l4), some (.int l5), some (.int l6), some (.int l7), some (.int l8), some (.int l9), some (.int l10), none] [] h P := by
  refine sw_iload dX8_assemble_30 rfl ?_
  exact sw_if_eq dX8_assemble_32 (by decide) (fun q => (sw_fg [false, false, false, false, false, false, true, true, false, true, true, false] rfl (kt q))) (fun q => (kf q))
theorem b_X8_assemble_35 {r0 : Nat} {l1 : Int32} {l3 : Int32} {l4 : Int32} {l5 : Int32} {l6 : Int32} {l7 : Int32} {l8 : Int32} {l9 : Int32} {l10 : Int32} {v3 : Int32} {g3 : ab_H} {fs3 : List Value} {fs6 : List Value} {a6 : Nat} {vs8 : List Value} {x8 : Int32} (hr3 : (h)[r0]? = some (8, fs3)) (hm3 : MSE m_X8_leastWord d [.ref r0, .int l9] h (some (.int v3)) g3) (hc6 : (g3)[r0]? = some (8, fs6)) (hv6 : fs6[1]? = some (.ref a6)) (hc8 : (g3)[a6]? = some (100, vs8)) (ho8 : ¬ v3 < 0) (hi8 : vs8[v3.toNatClampNeg]? = some (.int x8)) (kt : ¬ x8 = l6 → SW sc m_X8_assemble (d + 1) rc rs 62 [some (.ref r0), some (.int l1), none, some (.int l3), some (.int l4), some (.int l5), none, none, some (.int l8), some (.int l9), some (.int l10), some (.int v3)] [] g3 P) (kf : x8 = l6 → SW sc m_X8_assemble (d + 1) rc rs 55 [some (.ref r0), some (.int l1), none, some (.int l3), some (.int l4), some (.int l5), none, some (.int l7), some (.int l8), some (.int l9), some (.int l10), some (.int v3)] [] g3 P) : SW sc m_X8_assemble (d + 1) rc rs 35 [some (.ref r0), some (.int l1), none, some (.int l3), some (.int l4), some (.int l5), some (.int l6), some (.int l7), some (.int l8), some (.int l9), some (.int l10), none] [] h P := by
  refine sw_aload_n dX8_assemble_35 rfl ?_
  refine sw_iload dX8_assemble_36 rfl ?_
  refine sw_cV (M := m_X8_assemble) dX8_assemble_38 lv_X8_63 hm3 hr3 rfl (by decide) rfl rfl rfl (Nat.le_of_ble_eq_true rfl) (fun _ _ => rfl) rfl ?_
  show SW sc m_X8_assemble _ _ _ 41 [some (.ref r0), some (.int l1), none, some (.int l3), some (.int l4), some (.int l5), some (.int l6), some (.int l7), some (.int l8), some (.int l9), some (.int l10), none] [.int v3] g3 P
  refine sw_istore dX8_assemble_41 (by decide) rfl ?_
  show SW sc m_X8_assemble _ _ _ 43 [some (.ref r0), some (.int l1), none, some (.int l3), some (.int l4), some (.int l5), some (.int l6), some (.int l7), some (.int l8), some (.int l9), some (.int l10), some (.int v3)] [] g3 P
  refine sw_aload_n dX8_assemble_43 rfl ?_
  refine sw_getf dX8_assemble_44 lf_X8_15 hc6 hv6 ?_
  refine sw_iload dX8_assemble_47 rfl ?_
  refine sw_iald dX8_assemble_49 hc8 ho8 hi8 ?_
  refine sw_iload dX8_assemble_50 rfl ?_
  exact sw_icmp_ne dX8_assemble_52 (by decide) (fun q => (sw_fg [false, false, false, false, false, false, true, true, false, false, false, false] rfl (kt q))) (fun q => (sw_fg [false, false, false, false, false, false, true, false, false, false, false, false] rfl (kf q)))
theorem b_X8_assemble_55 {r0 : Nat} {l1 : Int32} {l3 : Int32} {l4 : Int32} {l5 : Int32} {l7 : Int32} {l8 : Int32} {l9 : Int32} {l10 : Int32} {l11 : Int32} (k : SW sc m_X8_assemble d rc rs 63 [some (.ref r0), some (.int l1), none, some (.int l3), some (.int l4), some (.int l5), none, none, some (.int l8), some (.int l9), some (.int l10), some (.int l11)] [.int (l7 + 1)] h P) : SW sc m_X8_assemble d rc rs 55 [some (.ref r0), some (.int l1), none, some (.int l3), some (.int l4), some (.int l5), none, some (.int l7), some (.int l8), some (.int l9), some (.int l10), some (.int l11)] [] h P := by
  refine sw_iload dX8_assemble_55 rfl ?_
  refine sw_iconst (v := 1) dX8_assemble_57 (by decide) ?_
  refine sw_iadd dX8_assemble_58 ?_
  exact sw_goto dX8_assemble_59 (by decide) (sw_fg [false, false, false, false, false, false, false, true, false, false, false, false] rfl (k))
theorem b_X8_assemble_62 {r0 : Nat} {l1 : Int32} {l3 : Int32} {l4 : Int32} {l5 : Int32} {l8 : Int32} {l9 : Int32} {l10 : Int32} {l11 : Int32} (k : SW sc m_X8_assemble d rc rs 63 [some (.ref r0), some (.int l1), none, some (.int l3), some (.int l4), some (.int l5), none, none, some (.int l8), some (.int l9), some (.int l10), some (.int l11)] [.int 1] h P) : SW sc m_X8_assemble d rc rs 62 [some (.ref r0), some (.int l1), none, some (.int l3), some (.int l4), some (.int l5), none, none, some (.int l8), some (.int l9), some (.int l10), some (.int l11)] [] h P := by
  refine sw_iconst (v := 1) dX8_assemble_62 (by decide) ?_
  exact (k)
theorem b_X8_assemble_63 {r0 : Nat} {l1 : Int32} {l3 : Int32} {l4 : Int32} {l5 : Int32} {l8 : Int32} {l9 : Int32} {l10 : Int32} {l11 : Int32} {s0 : Int32} {fs3 : List Value} {a3 : Nat} {vs5 : List Value} {x5 : Int32} {fs10 : List Value} {a10 : Nat} {vs12 : List Value} {x12 : Int32} {fs18 : List Value} {a18 : Nat} {vs20 : List Value} {x20 : Int32} {fs27 : List Value} {a27 : Nat} {vs29 : List Value} {x29 : Int32} {fs34 : List Value} {a34 : Nat} {vs36 : List Value} {x36 : Int32} {v37 : Int32} {g37 : ab_H} {v41 : Int32} {g41 : ab_H} (hc3 : (h)[r0]? = some (8, fs3)) (hv3 : fs3[1]? = some (.ref a3)) (hc5 : (h)[a3]? = some (100, vs5)) (ho5 : ¬ l11 < 0) (hi5 : vs5[l11.toNatClampNeg]? = some (.int x5)) (hc10 : (h)[r0]? = some (8, fs10)) (hv10 : fs10[4]? = some (.ref a10)) (hc12 : (h)[a10]? = some (100, vs12)) (ho12 : ¬ l11 < 0) (hi12 : vs12[l11.toNatClampNeg]? = some (.int x12)) (hc18 : (h)[r0]? = some (8, fs18)) (hv18 : fs18[1]? = some (.ref a18)) (hc20 : (h)[a18]? = some (100, vs20)) (ho20 : ¬ l11 < 0) (hi20 : vs20[l11.toNatClampNeg]? = some (.int x20)) (hc27 : (h)[r0]? = some (8, fs27)) (hv27 : fs27[2]? = some (.ref a27)) (hc29 : (h)[a27]? = some (100, vs29)) (ho29 : ¬ l11 < 0) (hi29 : vs29[l11.toNatClampNeg]? = some (.int x29)) (hc34 : (h)[r0]? = some (8, fs34)) (hv34 : fs34[2]? = some (.ref a34)) (hc36 : (h)[a34]? = some (100, vs36)) (ho36 : ¬ l11 < 0) (hi36 : vs36[l11.toNatClampNeg]? = some (.int x36)) (hm37 : MSE m_J9_max_7cf53 d [.int l8, .int x36] h (some (.int v37)) g37) (hm41 : MSE m_X9_without d [.int l9, .int l11] g37 (some (.int v41)) g41) (k : SW sc m_X8_assemble (d + 1) rc rs 23 [some (.ref r0), some (.int l1), none, some (.int (l3 ||| (x20 >>> (l4 &&& 31)))), some (.int (l4 + x29)), some (.int (l5 * (s0 * x12))), some (.int x5), some (.int s0), some (.int v37), some (.int v41), some (.int (l10 + 1)), none] [] g41 P) : SW sc m_X8_assemble (d + 1) rc rs 63 [some (.ref r0), some (.int l1), none, some (.int l3), some (.int l4), some (.int l5), none, none, some (.int l8), some (.int l9), some (.int l10), some (.int l11)] [.int s0] h P := by
  refine sw_istore dX8_assemble_63 (by decide) rfl ?_
  show SW sc m_X8_assemble _ _ _ 65 [some (.ref r0), some (.int l1), none, some (.int l3), some (.int l4), some (.int l5), none, some (.int s0), some (.int l8), some (.int l9), some (.int l10), some (.int l11)] [] h P
  refine sw_aload_n dX8_assemble_65 rfl ?_
  refine sw_getf dX8_assemble_66 lf_X8_15 hc3 hv3 ?_
  refine sw_iload dX8_assemble_69 rfl ?_
  refine sw_iald dX8_assemble_71 hc5 ho5 hi5 ?_
  refine sw_istore dX8_assemble_72 (by decide) rfl ?_
  show SW sc m_X8_assemble _ _ _ 74 [some (.ref r0), some (.int l1), none, some (.int l3), some (.int l4), some (.int l5), some (.int x5), some (.int s0), some (.int l8), some (.int l9), some (.int l10), some (.int l11)] [] h P
  refine sw_iload dX8_assemble_74 rfl ?_
  refine sw_iload dX8_assemble_76 rfl ?_
  refine sw_aload_n dX8_assemble_78 rfl ?_
  refine sw_getf dX8_assemble_79 lf_X8_24 hc10 hv10 ?_
  refine sw_iload dX8_assemble_82 rfl ?_
  refine sw_iald dX8_assemble_84 hc12 ho12 hi12 ?_
  refine sw_imul dX8_assemble_85 ?_
  refine sw_imul dX8_assemble_86 ?_
  refine sw_istore dX8_assemble_87 (by decide) rfl ?_
  show SW sc m_X8_assemble _ _ _ 89 [some (.ref r0), some (.int l1), none, some (.int l3), some (.int l4), some (.int (l5 * (s0 * x12))), some (.int x5), some (.int s0), some (.int l8), some (.int l9), some (.int l10), some (.int l11)] [] h P
  refine sw_iload_n dX8_assemble_89 rfl ?_
  refine sw_aload_n dX8_assemble_90 rfl ?_
  refine sw_getf dX8_assemble_91 lf_X8_15 hc18 hv18 ?_
  refine sw_iload dX8_assemble_94 rfl ?_
  refine sw_iald dX8_assemble_96 hc20 ho20 hi20 ?_
  refine sw_iload dX8_assemble_97 rfl ?_
  refine sw_ishr dX8_assemble_99 ?_
  refine sw_ior dX8_assemble_100 ?_
  refine sw_istore_n dX8_assemble_101 (by decide) rfl ?_
  show SW sc m_X8_assemble _ _ _ 102 [some (.ref r0), some (.int l1), none, some (.int (l3 ||| (x20 >>> (l4 &&& 31)))), some (.int l4), some (.int (l5 * (s0 * x12))), some (.int x5), some (.int s0), some (.int l8), some (.int l9), some (.int l10), some (.int l11)] [] h P
  refine sw_iload dX8_assemble_102 rfl ?_
  refine sw_aload_n dX8_assemble_104 rfl ?_
  refine sw_getf dX8_assemble_105 lf_X8_18 hc27 hv27 ?_
  refine sw_iload dX8_assemble_108 rfl ?_
  refine sw_iald dX8_assemble_110 hc29 ho29 hi29 ?_
  refine sw_iadd dX8_assemble_111 ?_
  refine sw_istore dX8_assemble_112 (by decide) rfl ?_
  show SW sc m_X8_assemble _ _ _ 114 [some (.ref r0), some (.int l1), none, some (.int (l3 ||| (x20 >>> (l4 &&& 31)))), some (.int (l4 + x29)), some (.int (l5 * (s0 * x12))), some (.int x5), some (.int s0), some (.int l8), some (.int l9), some (.int l10), some (.int l11)] [] h P
  refine sw_iload dX8_assemble_114 rfl ?_
  refine sw_aload_n dX8_assemble_116 rfl ?_
  refine sw_getf dX8_assemble_117 lf_X8_18 hc34 hv34 ?_
  refine sw_iload dX8_assemble_120 rfl ?_
  refine sw_iald dX8_assemble_122 hc36 ho36 hi36 ?_
  refine sw_cS (M := m_X8_assemble) dX8_assemble_123 ls_X8_66 hm37 rfl rfl (Nat.le_of_ble_eq_true rfl) (fun _ _ => rfl) rfl ?_
  show SW sc m_X8_assemble _ _ _ 126 [some (.ref r0), some (.int l1), none, some (.int (l3 ||| (x20 >>> (l4 &&& 31)))), some (.int (l4 + x29)), some (.int (l5 * (s0 * x12))), some (.int x5), some (.int s0), some (.int l8), some (.int l9), some (.int l10), some (.int l11)] [.int v37] g37 P
  refine sw_istore dX8_assemble_126 (by decide) rfl ?_
  show SW sc m_X8_assemble _ _ _ 128 [some (.ref r0), some (.int l1), none, some (.int (l3 ||| (x20 >>> (l4 &&& 31)))), some (.int (l4 + x29)), some (.int (l5 * (s0 * x12))), some (.int x5), some (.int s0), some (.int v37), some (.int l9), some (.int l10), some (.int l11)] [] g37 P
  refine sw_iload dX8_assemble_128 rfl ?_
  refine sw_iload dX8_assemble_130 rfl ?_
  refine sw_cS (M := m_X8_assemble) dX8_assemble_132 ls_X8_72 hm41 rfl rfl (Nat.le_of_ble_eq_true rfl) (fun _ _ => rfl) rfl ?_
  show SW sc m_X8_assemble _ _ _ 135 [some (.ref r0), some (.int l1), none, some (.int (l3 ||| (x20 >>> (l4 &&& 31)))), some (.int (l4 + x29)), some (.int (l5 * (s0 * x12))), some (.int x5), some (.int s0), some (.int v37), some (.int l9), some (.int l10), some (.int l11)] [.int v41] g41 P
  refine sw_istore dX8_assemble_135 (by decide) rfl ?_
  show SW sc m_X8_assemble _ _ _ 137 [some (.ref r0), some (.int l1), none, some (.int (l3 ||| (x20 >>> (l4 &&& 31)))), some (.int (l4 + x29)), some (.int (l5 * (s0 * x12))), some (.int x5), some (.int s0), some (.int v37), some (.int v41), some (.int l10), some (.int l11)] [] g41 P
  refine sw_iinc (v := l10 + 1) dX8_assemble_137 rfl rfl (by decide) rfl ?_
  show SW sc m_X8_assemble _ _ _ 140 [some (.ref r0), some (.int l1), none, some (.int (l3 ||| (x20 >>> (l4 &&& 31)))), some (.int (l4 + x29)), some (.int (l5 * (s0 * x12))), some (.int x5), some (.int s0), some (.int v37), some (.int v41), some (.int (l10 + 1)), some (.int l11)] [] g41 P
  exact sw_goto dX8_assemble_140 (by decide) (sw_fg [false, false, false, false, false, false, false, false, false, false, false, true] rfl (k))
theorem b_X8_assemble_143 {r0 : Nat} {l1 : Int32} {l3 : Int32} {l4 : Int32} {l5 : Int32} {l8 : Int32} {fs2 : List Value} {a2 : Nat} {vs11 : List Value} {fs13 : List Value} {a13 : Nat} {vs18 : List Value} {fs20 : List Value} {a20 : Nat} {vs23 : List Value} {fs25 : List Value} {a25 : Nat} {vs28 : List Value} (hc2 : (h)[r0]? = some (8, fs2)) (hv2 : fs2[1]? = some (.ref a2)) (hc11 : (h)[a2]? = some (100, vs11)) (ho11 : ¬ l1 < 0) (hl11 : l1.toNatClampNeg < vs11.length) (hc13 : ((h).set a2 (100, vs11.set l1.toNatClampNeg (.int (l3 ||| (1 <<< ((19 - l4) &&& 31))))))[r0]? = some (8, fs13)) (hv13 : fs13[2]? = some (.ref a13)) (hc18 : ((h).set a2 (100, vs11.set l1.toNatClampNeg (.int (l3 ||| (1 <<< ((19 - l4) &&& 31))))))[a13]? = some (100, vs18)) (ho18 : ¬ l1 < 0) (hl18 : l1.toNatClampNeg < vs18.length) (hc20 : (((h).set a2 (100, vs11.set l1.toNatClampNeg (.int (l3 ||| (1 <<< ((19 - l4) &&& 31)))))).set a13 (100, vs18.set l1.toNatClampNeg (.int (l4 + 1))))[r0]? = some (8, fs20)) (hv20 : fs20[3]? = some (.ref a20)) (hc23 : (((h).set a2 (100, vs11.set l1.toNatClampNeg (.int (l3 ||| (1 <<< ((19 - l4) &&& 31)))))).set a13 (100, vs18.set l1.toNatClampNeg (.int (l4 + 1))))[a20]? = some (100, vs23)) (ho23 : ¬ l1 < 0) (hl23 : l1.toNatClampNeg < vs23.length) (hc25 : ((((h).set a2 (100, vs11.set l1.toNatClampNeg (.int (l3 ||| (1 <<< ((19 - l4) &&& 31)))))).set a13 (100, vs18.set l1.toNatClampNeg (.int (l4 + 1)))).set a20 (100, vs23.set l1.toNatClampNeg (.int l8)))[r0]? = some (8, fs25)) (hv25 : fs25[4]? = some (.ref a25)) (hc28 : ((((h).set a2 (100, vs11.set l1.toNatClampNeg (.int (l3 ||| (1 <<< ((19 - l4) &&& 31)))))).set a13 (100, vs18.set l1.toNatClampNeg (.int (l4 + 1)))).set a20 (100, vs23.set l1.toNatClampNeg (.int l8)))[a25]? = some (100, vs28)) (ho28 : ¬ l1 < 0) (hl28 : l1.toNatClampNeg < vs28.length) (hP : P (.inl none) (((((h).set a2 (100, vs11.set l1.toNatClampNeg (.int (l3 ||| (1 <<< ((19 - l4) &&& 31)))))).set a13 (100, vs18.set l1.toNatClampNeg (.int (l4 + 1)))).set a20 (100, vs23.set l1.toNatClampNeg (.int l8))).set a25 (100, vs28.set l1.toNatClampNeg (.int l5)))) : SW sc m_X8_assemble d rc rs 143 [some (.ref r0), some (.int l1), none, some (.int l3), some (.int l4), some (.int l5), none, none, some (.int l8), none, none, none] [] h P := by
  refine sw_aload_n dX8_assemble_143 rfl ?_
  refine sw_getf dX8_assemble_144 lf_X8_15 hc2 hv2 ?_
  refine sw_iload_n dX8_assemble_147 rfl ?_
  refine sw_iload_n dX8_assemble_148 rfl ?_
  refine sw_iconst (v := 1) dX8_assemble_149 (by decide) ?_
  refine sw_bipush (v := 19) dX8_assemble_150 (by decide) ?_
  refine sw_iload dX8_assemble_152 rfl ?_
  refine sw_isub dX8_assemble_154 ?_
  refine sw_ishl dX8_assemble_155 ?_
  refine sw_ior dX8_assemble_156 ?_
  refine sw_iast dX8_assemble_157 hc11 ho11 hl11 ?_
  refine sw_aload_n dX8_assemble_158 rfl ?_
  refine sw_getf dX8_assemble_159 lf_X8_18 hc13 hv13 ?_
  refine sw_iload_n dX8_assemble_162 rfl ?_
  refine sw_iload dX8_assemble_163 rfl ?_
  refine sw_iconst (v := 1) dX8_assemble_165 (by decide) ?_
  refine sw_iadd dX8_assemble_166 ?_
  refine sw_iast dX8_assemble_167 hc18 ho18 hl18 ?_
  refine sw_aload_n dX8_assemble_168 rfl ?_
  refine sw_getf dX8_assemble_169 lf_X8_21 hc20 hv20 ?_
  refine sw_iload_n dX8_assemble_172 rfl ?_
  refine sw_iload dX8_assemble_173 rfl ?_
  refine sw_iast dX8_assemble_175 hc23 ho23 hl23 ?_
  refine sw_aload_n dX8_assemble_176 rfl ?_
  refine sw_getf dX8_assemble_177 lf_X8_24 hc25 hv25 ?_
  refine sw_iload_n dX8_assemble_180 rfl ?_
  refine sw_iload dX8_assemble_181 rfl ?_
  refine sw_iast dX8_assemble_183 hc28 ho28 hl28 ?_
  exact sw_ret (v := none) dX8_assemble_184 rt_v hP
theorem b_X8_leastWord_0 {r0 : Nat} {l1 : Int32} (k : SW sc m_X8_leastWord d rc rs 7 [some (.ref r0), some (.int l1), some (.int 0), some (.int 0), some (.int 0)] [] h P) : SW sc m_X8_leastWord d rc rs 0 [some (.ref r0), some (.int l1), none, none, none] [] h P := by
  refine sw_iconst (v := 0) dX8_leastWord_0 (by decide) ?_
  refine sw_istore_n dX8_leastWord_1 (by decide) rfl ?_
  show SW sc m_X8_leastWord _ _ _ 2 [some (.ref r0), some (.int l1), some (.int 0), none, none] [] h P
  refine sw_iconst (v := 0) dX8_leastWord_2 (by decide) ?_
  refine sw_istore_n dX8_leastWord_3 (by decide) rfl ?_
  show SW sc m_X8_leastWord _ _ _ 4 [some (.ref r0), some (.int l1), some (.int 0), some (.int 0), none] [] h P
  refine sw_iconst (v := 0) dX8_leastWord_4 (by decide) ?_
  refine sw_istore dX8_leastWord_5 (by decide) rfl ?_
  show SW sc m_X8_leastWord _ _ _ 7 [some (.ref r0), some (.int l1), some (.int 0), some (.int 0), some (.int 0)] [] h P
  exact (k)
theorem b_X8_leastWord_7 {r0 : Nat} {l1 : Int32} {l2 : Int32} {l3 : Int32} {l4 : Int32} (kt : 10 ≤ l4 → SW sc m_X8_leastWord d rc rs 54 [none, none, some (.int l2), none, none] [] h P) (kf : ¬ (10 ≤ l4) → SW sc m_X8_leastWord d rc rs 14 [some (.ref r0), some (.int l1), some (.int l2), some (.int l3), some (.int l4)] [] h P) : SW sc m_X8_leastWord d rc rs 7 [some (.ref r0), some (.int l1), some (.int l2), some (.int l3), some (.int l4)] [] h P := by
  refine sw_iload dX8_leastWord_7 rfl ?_
  refine sw_bipush (v := 10) dX8_leastWord_9 (by decide) ?_
  exact sw_icmp_ge dX8_leastWord_11 (by decide) (fun q => (sw_fg [true, true, false, true, true] rfl (kt q))) (fun q => (kf q))
theorem b_X8_leastWord_14 {r0 : Nat} {l1 : Int32} {l2 : Int32} {l3 : Int32} {l4 : Int32} {v3 : Int32} {g3 : ab_H} (hm3 : MSE m_X9_holds d [.int l1, .int l4] h (some (.int v3)) g3) (kt : v3 = 0 → SW sc m_X8_leastWord (d + 1) rc rs 48 [some (.ref r0), some (.int l1), some (.int l2), some (.int l3), some (.int l4)] [] g3 P) (kf : ¬ (v3 = 0) → SW sc m_X8_leastWord (d + 1) rc rs 23 [some (.ref r0), some (.int l1), some (.int l2), some (.int l3), some (.int l4)] [] g3 P) : SW sc m_X8_leastWord (d + 1) rc rs 14 [some (.ref r0), some (.int l1), some (.int l2), some (.int l3), some (.int l4)] [] h P := by
  refine sw_iload_n dX8_leastWord_14 rfl ?_
  refine sw_iload dX8_leastWord_15 rfl ?_
  refine sw_cS (M := m_X8_leastWord) dX8_leastWord_17 ls_X8_34 hm3 rfl rfl (Nat.le_of_ble_eq_true rfl) (fun _ _ => rfl) rfl ?_
  show SW sc m_X8_leastWord _ _ _ 20 [some (.ref r0), some (.int l1), some (.int l2), some (.int l3), some (.int l4)] [.int v3] g3 P
  exact sw_if_eq dX8_leastWord_20 (by decide) (fun q => (kt q)) (fun q => (kf q))
theorem b_X8_leastWord_23 {r0 : Nat} {l1 : Int32} {l2 : Int32} {l3 : Int32} {l4 : Int32} (kt : l3 = 0 → SW sc m_X8_leastWord d rc rs 43 [some (.ref r0), some (.int l1), none, none, some (.int l4)] [] h P) (kf : ¬ (l3 = 0) → SW sc m_X8_leastWord d rc rs 27 [some (.ref r0), some (.int l1), some (.int l2), some (.int l3), some (.int l4)] [] h P) : SW sc m_X8_leastWord d rc rs 23 [some (.ref r0), some (.int l1), some (.int l2), some (.int l3), some (.int l4)] [] h P := by
  refine sw_iload_n dX8_leastWord_23 rfl ?_
  exact sw_if_eq dX8_leastWord_24 (by decide) (fun q => (sw_fg [false, false, true, true, false] rfl (kt q))) (fun q => (kf q))
theorem b_X8_leastWord_27 {r0 : Nat} {l1 : Int32} {l2 : Int32} {l3 : Int32} {l4 : Int32} {fs2 : List Value} {a2 : Nat} {vs4 : List Value} {x4 : Int32} {fs6 : List Value} {a6 : Nat} {vs8 : List Value} {x8 : Int32} (hc2 : (h)[r0]? = some (8, fs2)) (hv2 : fs2[1]? = some (.ref a2)) (hc4 : (h)[a2]? = some (100, vs4)) (ho4 : ¬ l4 < 0) (hi4 : vs4[l4.toNatClampNeg]? = some (.int x4)) (hc6 : (h)[r0]? = some (8, fs6)) (hv6 : fs6[1]? = some (.ref a6)) (hc8 : (h)[a6]? = some (100, vs8)) (ho8 : ¬ l2 < 0) (hi8 : vs8[l2.toNatClampNeg]? = some (.int x8)) (kt : x8 ≤ x4 → SW sc m_X8_leastWord d rc rs 48 [some (.ref r0), some (.int l1), some (.int l2), some (.int l3), some (.int l4)] [] h P) (kf : ¬ (x8 ≤ x4) → SW sc m_X8_leastWord d rc rs 43 [some (.ref r0), some (.int l1), none, none, some (.int l4)] [] h P) : SW sc m_X8_leastWord d rc rs 27 [some (.ref r0), some (.int l1), some (.int l2), some (.int l3), some (.int l4)] [] h P := by
  refine sw_aload_n dX8_leastWord_27 rfl ?_
  refine sw_getf dX8_leastWord_28 lf_X8_15 hc2 hv2 ?_
  refine sw_iload dX8_leastWord_31 rfl ?_
  refine sw_iald dX8_leastWord_33 hc4 ho4 hi4 ?_
  refine sw_aload_n dX8_leastWord_34 rfl ?_
  refine sw_getf dX8_leastWord_35 lf_X8_15 hc6 hv6 ?_
  refine sw_iload_n dX8_leastWord_38 rfl ?_
  refine sw_iald dX8_leastWord_39 hc8 ho8 hi8 ?_
  exact sw_icmp_ge dX8_leastWord_40 (by decide) (fun q => (kt q)) (fun q => (sw_fg [false, false, true, true, false] rfl (kf q)))
theorem b_X8_leastWord_43 {r0 : Nat} {l1 : Int32} {l4 : Int32} (k : SW sc m_X8_leastWord d rc rs 48 [some (.ref r0), some (.int l1), some (.int l4), some (.int 1), some (.int l4)] [] h P) : SW sc m_X8_leastWord d rc rs 43 [some (.ref r0), some (.int l1), none, none, some (.int l4)] [] h P := by
  refine sw_iload dX8_leastWord_43 rfl ?_
  refine sw_istore_n dX8_leastWord_45 (by decide) rfl ?_
  show SW sc m_X8_leastWord _ _ _ 46 [some (.ref r0), some (.int l1), some (.int l4), none, some (.int l4)] [] h P
  refine sw_iconst (v := 1) dX8_leastWord_46 (by decide) ?_
  refine sw_istore_n dX8_leastWord_47 (by decide) rfl ?_
  show SW sc m_X8_leastWord _ _ _ 48 [some (.ref r0), some (.int l1), some (.int l4), some (.int 1), some (.int l4)] [] h P
  exact (k)
theorem b_X8_leastWord_48 {r0 : Nat} {l1 : Int32} {l2 : Int32} {l3 : Int32} {l4 : Int32} (k : SW sc m_X8_leastWord d rc rs 7 [some (.ref r0), some (.int l1), some (.int l2), some (.int l3), some (.int (l4 + 1))] [] h P) : SW sc m_X8_leastWord d rc rs 48 [some (.ref r0), some (.int l1), some (.int l2), some (.int l3), some (.int l4)] [] h P := by
  refine sw_iinc (v := l4 + 1) dX8_leastWord_48 rfl rfl (by decide) rfl ?_
  show SW sc m_X8_leastWord _ _ _ 51 [some (.ref r0), some (.int l1), some (.int l2), some (.int l3), some (.int (l4 + 1))] [] h P
  exact sw_goto dX8_leastWord_51 (by decide) (k)
theorem b_X8_leastWord_54 {l2 : Int32} (hP : P (.inl (some (.int l2))) h) : SW sc m_X8_leastWord d rc rs 54 [none, none, some (.int l2), none, none] [] h P := by
  refine sw_iload_n dX8_leastWord_54 rfl ?_
  exact sw_ret (v := (some (.int l2))) dX8_leastWord_55 rt_i hP
theorem b_X8_wordOf_0 {r0 : Nat} {r1 : Nat} {l2 : Int32} {v4 : Int32} {g4 : ab_H} {v5 : Int32} {g5 : ab_H} {fs5 : List Value} {v10 : Int32} {g10 : ab_H} {fs10 : List Value} (hm4 : MSE m_X9_lowest d [.int l2] h (some (.int v4)) g4) (hr5 : (g4)[r0]? = some (8, fs5)) (hm5 : MSE m_X8_wordFrom d [.ref r0, .ref r1, .int v4] g4 (some (.int v5)) g5) (hr10 : (g5)[r0]? = some (8, fs10)) (hm10 : MSE m_X8_centroidsSeen d [.ref r0, .ref r1, .int l2] g5 (some (.int v10)) g10) (k : SW sc m_X8_wordOf (d + 1) rc rs 23 [some (.ref r0), some (.ref r1), none, some (.int v10), some (.int (-1)), some (.int 0), none] [] g10 P) : SW sc m_X8_wordOf (d + 1) rc rs 0 [some (.ref r0), some (.ref r1), some (.int l2), none, none, none, none] [] h P := by
  refine sw_aload_n dX8_wordOf_0 rfl ?_
  refine sw_aload_n dX8_wordOf_1 rfl ?_
  refine sw_iload_n dX8_wordOf_2 rfl ?_
  refine sw_cS (M := m_X8_wordOf) dX8_wordOf_3 ls_X8_75 hm4 rfl rfl (Nat.le_of_ble_eq_true rfl) (fun _ _ => rfl) rfl ?_
  show SW sc m_X8_wordOf _ _ _ 6 [some (.ref r0), some (.ref r1), some (.int l2), none, none, none, none] [.int v4, .ref r1, .ref r0] g4 P
  refine sw_cV (M := m_X8_wordOf) dX8_wordOf_6 lv_X8_78 hm5 hr5 rfl (by decide) rfl rfl rfl (Nat.le_of_ble_eq_true rfl) (fun _ _ => rfl) rfl ?_
  show SW sc m_X8_wordOf _ _ _ 9 [some (.ref r0), some (.ref r1), some (.int l2), none, none, none, none] [.int v5] g5 P
  refine sw_pop dX8_wordOf_9 (fun _ _ => rfl) ?_
  refine sw_aload_n dX8_wordOf_10 rfl ?_
  refine sw_aload_n dX8_wordOf_11 rfl ?_
  refine sw_iload_n dX8_wordOf_12 rfl ?_
  refine sw_cV (M := m_X8_wordOf) dX8_wordOf_13 lv_X8_81 hm10 hr10 rfl (by decide) rfl rfl rfl (Nat.le_of_ble_eq_true rfl) (fun _ _ => rfl) rfl ?_
  show SW sc m_X8_wordOf _ _ _ 16 [some (.ref r0), some (.ref r1), some (.int l2), none, none, none, none] [.int v10] g10 P
  refine sw_istore_n dX8_wordOf_16 (by decide) rfl ?_
  show SW sc m_X8_wordOf _ _ _ 17 [some (.ref r0), some (.ref r1), some (.int l2), some (.int v10), none, none, none] [] g10 P
  refine sw_iconst (v := (-1)) dX8_wordOf_17 (by decide) ?_
  refine sw_istore dX8_wordOf_18 (by decide) rfl ?_
  show SW sc m_X8_wordOf _ _ _ 20 [some (.ref r0), some (.ref r1), some (.int l2), some (.int v10), some (.int (-1)), none, none] [] g10 P
  refine sw_iconst (v := 0) dX8_wordOf_20 (by decide) ?_
  refine sw_istore dX8_wordOf_21 (by decide) rfl ?_
  show SW sc m_X8_wordOf _ _ _ 23 [some (.ref r0), some (.ref r1), some (.int l2), some (.int v10), some (.int (-1)), some (.int 0), none] [] g10 P
  exact (sw_fg [false, false, true, false, false, false, false] rfl (k))
theorem b_X8_wordOf_23 {r0 : Nat} {r1 : Nat} {l3 : Int32} {l4 : Int32} {l5 : Int32} {fs3 : List Value} {x3 : Int32} (hc3 : (h)[r1]? = some (3, fs3)) (hv3 : fs3[2]? = some (.int x3)) (kt : x3 ≤ l5 → SW sc m_X8_wordOf d rc rs 76 [none, none, none, none, some (.int l4), none, none] [] h P) (kf : ¬ (x3 ≤ l5) → SW sc m_X8_wordOf d rc rs 32 [some (.ref r0), some (.ref r1), none, some (.int l3), some (.int l4), some (.int l5), none] [] h P) : SW sc m_X8_wordOf d rc rs 23 [some (.ref r0), some (.ref r1), none, some (.int l3), some (.int l4), some (.int l5), none] [] h P := by
  refine sw_iload dX8_wordOf_23 rfl ?_
  refine sw_aload_n dX8_wordOf_25 rfl ?_
  refine sw_getf dX8_wordOf_26 lf_X8_48 hc3 hv3 ?_
  exact sw_icmp_ge dX8_wordOf_29 (by decide) (fun q => (sw_fg [true, true, false, true, false, true, false] rfl (kt q))) (fun q => (kf q))
theorem b_X8_wordOf_32 {r0 : Nat} {r1 : Nat} {l3 : Int32} {l4 : Int32} {l5 : Int32} {v3 : Int32} {g3 : ab_H} (hm3 : MSE m_X9_holds d [.int l3, .int l5] h (some (.int v3)) g3) (kt : v3 = 0 → SW sc m_X8_wordOf (d + 1) rc rs 70 [some (.ref r0), some (.ref r1), none, some (.int l3), some (.int l4), some (.int l5), none] [] g3 P) (kf : ¬ (v3 = 0) → SW sc m_X8_wordOf (d + 1) rc rs 41 [some (.ref r0), some (.ref r1), none, some (.int l3), some (.int l4), some (.int l5), none] [] g3 P) : SW sc m_X8_wordOf (d + 1) rc rs 32 [some (.ref r0), some (.ref r1), none, some (.int l3), some (.int l4), some (.int l5), none] [] h P := by
  refine sw_iload_n dX8_wordOf_32 rfl ?_
  refine sw_iload dX8_wordOf_33 rfl ?_
  refine sw_cS (M := m_X8_wordOf) dX8_wordOf_35 ls_X8_34 hm3 rfl rfl (Nat.le_of_ble_eq_true rfl) (fun _ _ => rfl) rfl ?_
  show SW sc m_X8_wordOf _ _ _ 38 [some (.ref r0), some (.ref r1), none, some (.int l3), some (.int l4), some (.int l5), none] [.int v3] g3 P
  exact sw_if_eq dX8_wordOf_38 (by decide) (fun q => (kt q)) (fun q => (kf q))
theorem b_X8_wordOf_41 {r0 : Nat} {r1 : Nat} {l3 : Int32} {l4 : Int32} {l5 : Int32} {v4 : Int32} {g4 : ab_H} {fs4 : List Value} (hr4 : (h)[r0]? = some (8, fs4)) (hm4 : MSE m_X8_wordFrom d [.ref r0, .ref r1, .int l5] h (some (.int v4)) g4) (kt : ¬ l4 = (-1) → SW sc m_X8_wordOf (d + 1) rc rs 61 [some (.ref r0), some (.ref r1), none, some (.int l3), some (.int l4), some (.int l5), some (.int v4)] [] g4 P) (kf : l4 = (-1) → SW sc m_X8_wordOf (d + 1) rc rs 56 [some (.ref r0), some (.ref r1), none, some (.int l3), none, some (.int l5), some (.int v4)] [] g4 P) : SW sc m_X8_wordOf (d + 1) rc rs 41 [some (.ref r0), some (.ref r1), none, some (.int l3), some (.int l4), some (.int l5), none] [] h P := by
  refine sw_aload_n dX8_wordOf_41 rfl ?_
  refine sw_aload_n dX8_wordOf_42 rfl ?_
  refine sw_iload dX8_wordOf_43 rfl ?_
  refine sw_cV (M := m_X8_wordOf) dX8_wordOf_45 lv_X8_78 hm4 hr4 rfl (by decide) rfl rfl rfl (Nat.le_of_ble_eq_true rfl) (fun _ _ => rfl) rfl ?_
  show SW sc m_X8_wordOf _ _ _ 48 [some (.ref r0), some (.ref r1), none, some (.int l3), some (.int l4), some (.int l5), none] [.int v4] g4 P
  refine sw_istore dX8_wordOf_48 (by decide) rfl ?_
  show SW sc m_X8_wordOf _ _ _ 50 [some (.ref r0), some (.ref r1), none, some (.int l3), some (.int l4), some (.int l5), some (.int v4)] [] g4 P
  refine sw_iload dX8_wordOf_50 rfl ?_
  refine sw_iconst (v := (-1)) dX8_wordOf_52 (by decide) ?_
  exact sw_icmp_ne dX8_wordOf_53 (by decide) (fun q => (kt q)) (fun q => (sw_fg [false, false, false, false, true, false, false] rfl (kf q)))
theorem b_X8_wordOf_56 {r0 : Nat} {r1 : Nat} {l3 : Int32} {l5 : Int32} {l6 : Int32} (k : SW sc m_X8_wordOf d rc rs 68 [some (.ref r0), some (.ref r1), none, some (.int l3), none, some (.int l5), none] [.int l6] h P) : SW sc m_X8_wordOf d rc rs 56 [some (.ref r0), some (.ref r1), none, some (.int l3), none, some (.int l5), some (.int l6)] [] h P := by
  refine sw_iload dX8_wordOf_56 rfl ?_
  exact sw_goto dX8_wordOf_58 (by decide) (sw_fg [false, false, false, false, false, false, true] rfl (k))
theorem b_X8_wordOf_61 {r0 : Nat} {r1 : Nat} {l3 : Int32} {l4 : Int32} {l5 : Int32} {l6 : Int32} {v3 : Int32} {g3 : ab_H} (hm3 : MSE m_J9_min_7cf53 d [.int l4, .int l6] h (some (.int v3)) g3) (k : SW sc m_X8_wordOf (d + 1) rc rs 68 [some (.ref r0), some (.ref r1), none, some (.int l3), none, some (.int l5), none] [.int v3] g3 P) : SW sc m_X8_wordOf (d + 1) rc rs 61 [some (.ref r0), some (.ref r1), none, some (.int l3), some (.int l4), some (.int l5), some (.int l6)] [] h P := by
  refine sw_iload dX8_wordOf_61 rfl ?_
  refine sw_iload dX8_wordOf_63 rfl ?_
  refine sw_cS (M := m_X8_wordOf) dX8_wordOf_65 ls_X8_84 hm3 rfl rfl (Nat.le_of_ble_eq_true rfl) (fun _ _ => rfl) rfl ?_
  show SW sc m_X8_wordOf _ _ _ 68 [some (.ref r0), some (.ref r1), none, some (.int l3), some (.int l4), some (.int l5), some (.int l6)] [.int v3] g3 P
  exact (sw_fg [false, false, false, false, true, false, true] rfl (k))
theorem b_X8_wordOf_68 {r0 : Nat} {r1 : Nat} {l3 : Int32} {l5 : Int32} {s0 : Int32} (k : SW sc m_X8_wordOf d rc rs 70 [some (.ref r0), some (.ref r1), none, some (.int l3), some (.int s0), some (.int l5), none] [] h P) : SW sc m_X8_wordOf d rc rs 68 [some (.ref r0), some (.ref r1), none, some (.int l3), none, some (.int l5), none] [.int s0] h P := by
  refine sw_istore dX8_wordOf_68 (by decide) rfl ?_
  show SW sc m_X8_wordOf _ _ _ 70 [some (.ref r0), some (.ref r1), none, some (.int l3), some (.int s0), some (.int l5), none] [] h P
  exact (k)
theorem b_X8_wordOf_70 {r0 : Nat} {r1 : Nat} {l3 : Int32} {l4 : Int32} {l5 : Int32} (k : SW sc m_X8_wordOf d rc rs 23 [some (.ref r0), some (.ref r1), none, some (.int l3), some (.int l4), some (.int (l5 + 1)), none] [] h P) : SW sc m_X8_wordOf d rc rs 70 [some (.ref r0), some (.ref r1), none, some (.int l3), some (.int l4), some (.int l5), none] [] h P := by
  refine sw_iinc (v := l5 + 1) dX8_wordOf_70 rfl rfl (by decide) rfl ?_
  show SW sc m_X8_wordOf _ _ _ 73 [some (.ref r0), some (.ref r1), none, some (.int l3), some (.int l4), some (.int (l5 + 1)), none] [] h P
  exact sw_goto dX8_wordOf_73 (by decide) (k)
theorem b_X8_wordOf_76 {l4 : Int32} (hP : P (.inl (some (.int l4))) h) : SW sc m_X8_wordOf d rc rs 76 [none, none, none, none, some (.int l4), none, none] [] h P := by
  refine sw_iload dX8_wordOf_76 rfl ?_
  exact sw_ret (v := (some (.int l4))) dX8_wordOf_78 rt_i hP
theorem b_X8_centroidsSeen_0 {r0 : Nat} {r1 : Nat} {l2 : Int32} {v3 : Int32} {g3 : ab_H} (hm3 : MSE m_J6_bitCount_0f7a4 d [.int l2] h (some (.int v3)) g3) (k : SW sc m_X8_centroidsSeen (d + 1) rc rs 13 [some (.ref r0), some (.ref r1), some (.int l2), some (.int (2 * v3)), some (.int 0), some (.int 0)] [] g3 P) : SW sc m_X8_centroidsSeen (d + 1) rc rs 0 [some (.ref r0), some (.ref r1), some (.int l2), none, none, none] [] h P := by
  refine sw_iconst (v := 2) dX8_centroidsSeen_0 (by decide) ?_
  refine sw_iload_n dX8_centroidsSeen_1 rfl ?_
  refine sw_cS (M := m_X8_centroidsSeen) dX8_centroidsSeen_2 ls_X8_87 hm3 rfl rfl (Nat.le_of_ble_eq_true rfl) (fun _ _ => rfl) rfl ?_
  show SW sc m_X8_centroidsSeen _ _ _ 5 [some (.ref r0), some (.ref r1), some (.int l2), none, none, none] [.int v3, .int 2] g3 P
  refine sw_imul dX8_centroidsSeen_5 ?_
  refine sw_istore_n dX8_centroidsSeen_6 (by decide) rfl ?_
  show SW sc m_X8_centroidsSeen _ _ _ 7 [some (.ref r0), some (.ref r1), some (.int l2), some (.int (2 * v3)), none, none] [] g3 P
  refine sw_iconst (v := 0) dX8_centroidsSeen_7 (by decide) ?_
  refine sw_istore dX8_centroidsSeen_8 (by decide) rfl ?_
  show SW sc m_X8_centroidsSeen _ _ _ 10 [some (.ref r0), some (.ref r1), some (.int l2), some (.int (2 * v3)), some (.int 0), none] [] g3 P
  refine sw_iconst (v := 0) dX8_centroidsSeen_10 (by decide) ?_
  refine sw_istore dX8_centroidsSeen_11 (by decide) rfl ?_
  show SW sc m_X8_centroidsSeen _ _ _ 13 [some (.ref r0), some (.ref r1), some (.int l2), some (.int (2 * v3)), some (.int 0), some (.int 0)] [] g3 P
  exact (k)
theorem b_X8_centroidsSeen_13 {r0 : Nat} {r1 : Nat} {l2 : Int32} {l3 : Int32} {l4 : Int32} {l5 : Int32} {fs3 : List Value} {x3 : Int32} (hc3 : (h)[r1]? = some (3, fs3)) (hv3 : fs3[2]? = some (.int x3)) (kt : x3 ≤ l5 → SW sc m_X8_centroidsSeen d rc rs 71 [none, none, none, none, some (.int l4), none] [] h P) (kf : ¬ (x3 ≤ l5) → SW sc m_X8_centroidsSeen d rc rs 22 [some (.ref r0), some (.ref r1), some (.int l2), some (.int l3), some (.int l4), some (.int l5)] [] h P) : SW sc m_X8_centroidsSeen d rc rs 13 [some (.ref r0), some (.ref r1), some (.int l2), some (.int l3), some (.int l4), some (.int l5)] [] h P := by
  refine sw_iload dX8_centroidsSeen_13 rfl ?_
  refine sw_aload_n dX8_centroidsSeen_15 rfl ?_
  refine sw_getf dX8_centroidsSeen_16 lf_X8_48 hc3 hv3 ?_
  exact sw_icmp_ge dX8_centroidsSeen_19 (by decide) (fun q => (sw_fg [true, true, true, true, false, true] rfl (kt q))) (fun q => (kf q))
theorem b_X8_centroidsSeen_22 {r0 : Nat} {r1 : Nat} {l2 : Int32} {l3 : Int32} {l4 : Int32} {l5 : Int32} {v3 : Int32} {g3 : ab_H} (hm3 : MSE m_X9_holds d [.int l2, .int l5] h (some (.int v3)) g3) (kt : v3 = 0 → SW sc m_X8_centroidsSeen (d + 1) rc rs 65 [some (.ref r0), some (.ref r1), some (.int l2), some (.int l3), some (.int l4), some (.int l5)] [] g3 P) (kf : ¬ (v3 = 0) → SW sc m_X8_centroidsSeen (d + 1) rc rs 31 [some (.ref r0), some (.ref r1), some (.int l2), some (.int l3), some (.int l4), some (.int l5)] [] g3 P) : SW sc m_X8_centroidsSeen (d + 1) rc rs 22 [some (.ref r0), some (.ref r1), some (.int l2), some (.int l3), some (.int l4), some (.int l5)] [] h P := by
  refine sw_iload_n dX8_centroidsSeen_22 rfl ?_
  refine sw_iload dX8_centroidsSeen_23 rfl ?_
  refine sw_cS (M := m_X8_centroidsSeen) dX8_centroidsSeen_25 ls_X8_34 hm3 rfl rfl (Nat.le_of_ble_eq_true rfl) (fun _ _ => rfl) rfl ?_
  show SW sc m_X8_centroidsSeen _ _ _ 28 [some (.ref r0), some (.ref r1), some (.int l2), some (.int l3), some (.int l4), some (.int l5)] [.int v3] g3 P
  exact sw_if_eq dX8_centroidsSeen_28 (by decide) (fun q => (kt q)) (fun q => (kf q))
theorem b_X8_centroidsSeen_31 {r0 : Nat} {r1 : Nat} {l2 : Int32} {l3 : Int32} {l4 : Int32} {l5 : Int32} {fs3 : List Value} {a3 : Nat} {vs5 : List Value} {x5 : Int32} {fs8 : List Value} {a8 : Nat} {vs10 : List Value} {x10 : Int32} {v12 : Int32} {g12 : ab_H} (hc3 : (h)[r0]? = some (8, fs3)) (hv3 : fs3[3]? = some (.ref a3)) (hc5 : (h)[a3]? = some (100, vs5)) (ho5 : ¬ l5 < 0) (hi5 : vs5[l5.toNatClampNeg]? = some (.int x5)) (hc8 : (h)[r0]? = some (8, fs8)) (hv8 : fs8[2]? = some (.ref a8)) (hc10 : (h)[a8]? = some (100, vs10)) (ho10 : ¬ l5 < 0) (hi10 : vs10[l5.toNatClampNeg]? = some (.int x10)) (hm12 : MSE m_J9_max_7cf53 d [.int x5, .int (l3 - x10)] h (some (.int v12)) g12) (kt : l3 < (2 * v12) → SW sc m_X8_centroidsSeen (d + 1) rc rs 65 [some (.ref r0), some (.ref r1), some (.int l2), some (.int l3), some (.int l4), some (.int l5)] [] g12 P) (kf : ¬ (l3 < (2 * v12)) → SW sc m_X8_centroidsSeen (d + 1) rc rs 56 [some (.ref r0), some (.ref r1), some (.int l2), some (.int l3), some (.int l4), some (.int l5)] [] g12 P) : SW sc m_X8_centroidsSeen (d + 1) rc rs 31 [some (.ref r0), some (.ref r1), some (.int l2), some (.int l3), some (.int l4), some (.int l5)] [] h P := by
  refine sw_iconst (v := 2) dX8_centroidsSeen_31 (by decide) ?_
  refine sw_aload_n dX8_centroidsSeen_32 rfl ?_
  refine sw_getf dX8_centroidsSeen_33 lf_X8_21 hc3 hv3 ?_
  refine sw_iload dX8_centroidsSeen_36 rfl ?_
  refine sw_iald dX8_centroidsSeen_38 hc5 ho5 hi5 ?_
  refine sw_iload_n dX8_centroidsSeen_39 rfl ?_
  refine sw_aload_n dX8_centroidsSeen_40 rfl ?_
  refine sw_getf dX8_centroidsSeen_41 lf_X8_18 hc8 hv8 ?_
  refine sw_iload dX8_centroidsSeen_44 rfl ?_
  refine sw_iald dX8_centroidsSeen_46 hc10 ho10 hi10 ?_
  refine sw_isub dX8_centroidsSeen_47 ?_
  refine sw_cS (M := m_X8_centroidsSeen) dX8_centroidsSeen_48 ls_X8_66 hm12 rfl rfl (Nat.le_of_ble_eq_true rfl) (fun _ _ => rfl) rfl ?_
  show SW sc m_X8_centroidsSeen _ _ _ 51 [some (.ref r0), some (.ref r1), some (.int l2), some (.int l3), some (.int l4), some (.int l5)] [.int v12, .int 2] g12 P
  refine sw_imul dX8_centroidsSeen_51 ?_
  refine sw_iload_n dX8_centroidsSeen_52 rfl ?_
  exact sw_icmp_gt dX8_centroidsSeen_53 (by decide) (fun q => (kt q)) (fun q => (kf q))
theorem b_X8_centroidsSeen_56 {r0 : Nat} {r1 : Nat} {l2 : Int32} {l3 : Int32} {l4 : Int32} {l5 : Int32} (k : SW sc m_X8_centroidsSeen d rc rs 65 [some (.ref r0), some (.ref r1), some (.int l2), some (.int l3), some (.int (l4 ||| (1 <<< (l5 &&& 31)))), some (.int l5)] [] h P) : SW sc m_X8_centroidsSeen d rc rs 56 [some (.ref r0), some (.ref r1), some (.int l2), some (.int l3), some (.int l4), some (.int l5)] [] h P := by
  refine sw_iload dX8_centroidsSeen_56 rfl ?_
  refine sw_iconst (v := 1) dX8_centroidsSeen_58 (by decide) ?_
  refine sw_iload dX8_centroidsSeen_59 rfl ?_
  refine sw_ishl dX8_centroidsSeen_61 ?_
  refine sw_ior dX8_centroidsSeen_62 ?_
  refine sw_istore dX8_centroidsSeen_63 (by decide) rfl ?_
  show SW sc m_X8_centroidsSeen _ _ _ 65 [some (.ref r0), some (.ref r1), some (.int l2), some (.int l3), some (.int (l4 ||| (1 <<< (l5 &&& 31)))), some (.int l5)] [] h P
  exact (k)
theorem b_X8_centroidsSeen_65 {r0 : Nat} {r1 : Nat} {l2 : Int32} {l3 : Int32} {l4 : Int32} {l5 : Int32} (k : SW sc m_X8_centroidsSeen d rc rs 13 [some (.ref r0), some (.ref r1), some (.int l2), some (.int l3), some (.int l4), some (.int (l5 + 1))] [] h P) : SW sc m_X8_centroidsSeen d rc rs 65 [some (.ref r0), some (.ref r1), some (.int l2), some (.int l3), some (.int l4), some (.int l5)] [] h P := by
  refine sw_iinc (v := l5 + 1) dX8_centroidsSeen_65 rfl rfl (by decide) rfl ?_
  show SW sc m_X8_centroidsSeen _ _ _ 68 [some (.ref r0), some (.ref r1), some (.int l2), some (.int l3), some (.int l4), some (.int (l5 + 1))] [] h P
  exact sw_goto dX8_centroidsSeen_68 (by decide) (k)
theorem b_X8_centroidsSeen_71 {l4 : Int32} (hP : P (.inl (some (.int l4))) h) : SW sc m_X8_centroidsSeen d rc rs 71 [none, none, none, none, some (.int l4), none] [] h P := by
  refine sw_iload dX8_centroidsSeen_71 rfl ?_
  exact sw_ret (v := (some (.int l4))) dX8_centroidsSeen_73 rt_i hP
theorem b_X8_orbitOf_0 {r0 : Nat} {r1 : Nat} {l2 : Int32} {v3 : Int32} {g3 : ab_H} {fs3 : List Value} {v8 : Int32} {g8 : ab_H} {fs8 : List Value} (hr3 : (h)[r1]? = some (3, fs3)) (hm3 : MSE m_X3_componentWith d [.ref r1, .int l2] h (some (.int v3)) g3) (hr8 : (g3)[r0]? = some (8, fs8)) (hm8 : MSE m_X8_wordFrom d [.ref r0, .ref r1, .int l2] g3 (some (.int v8)) g8) (k : SW sc m_X8_orbitOf (d + 1) rc rs 20 [some (.ref r0), some (.ref r1), none, some (.int v3), some (.int v8), some (.int 0), some (.int 0)] [] g8 P) : SW sc m_X8_orbitOf (d + 1) rc rs 0 [some (.ref r0), some (.ref r1), some (.int l2), none, none, none, none] [] h P := by
  refine sw_aload_n dX8_orbitOf_0 rfl ?_
  refine sw_iload_n dX8_orbitOf_1 rfl ?_
  refine sw_cV (M := m_X8_orbitOf) dX8_orbitOf_2 lv_X8_92 hm3 hr3 rfl (by decide) rfl rfl rfl (Nat.le_of_ble_eq_true rfl) (fun _ _ => rfl) rfl ?_
  show SW sc m_X8_orbitOf _ _ _ 5 [some (.ref r0), some (.ref r1), some (.int l2), none, none, none, none] [.int v3] g3 P
  refine sw_istore_n dX8_orbitOf_5 (by decide) rfl ?_
  show SW sc m_X8_orbitOf _ _ _ 6 [some (.ref r0), some (.ref r1), some (.int l2), some (.int v3), none, none, none] [] g3 P
  refine sw_aload_n dX8_orbitOf_6 rfl ?_
  refine sw_aload_n dX8_orbitOf_7 rfl ?_
  refine sw_iload_n dX8_orbitOf_8 rfl ?_
  refine sw_cV (M := m_X8_orbitOf) dX8_orbitOf_9 lv_X8_78 hm8 hr8 rfl (by decide) rfl rfl rfl (Nat.le_of_ble_eq_true rfl) (fun _ _ => rfl) rfl ?_
  show SW sc m_X8_orbitOf _ _ _ 12 [some (.ref r0), some (.ref r1), some (.int l2), some (.int v3), none, none, none] [.int v8] g8 P
  refine sw_istore dX8_orbitOf_12 (by decide) rfl ?_
  show SW sc m_X8_orbitOf _ _ _ 14 [some (.ref r0), some (.ref r1), some (.int l2), some (.int v3), some (.int v8), none, none] [] g8 P
  refine sw_iconst (v := 0) dX8_orbitOf_14 (by decide) ?_
  refine sw_istore dX8_orbitOf_15 (by decide) rfl ?_
  show SW sc m_X8_orbitOf _ _ _ 17 [some (.ref r0), some (.ref r1), some (.int l2), some (.int v3), some (.int v8), some (.int 0), none] [] g8 P
  refine sw_iconst (v := 0) dX8_orbitOf_17 (by decide) ?_
  refine sw_istore dX8_orbitOf_18 (by decide) rfl ?_
  show SW sc m_X8_orbitOf _ _ _ 20 [some (.ref r0), some (.ref r1), some (.int l2), some (.int v3), some (.int v8), some (.int 0), some (.int 0)] [] g8 P
  exact (sw_fg [false, false, true, false, false, false, false] rfl (k))
theorem b_X8_orbitOf_20 {r0 : Nat} {r1 : Nat} {l3 : Int32} {l4 : Int32} {l5 : Int32} {l6 : Int32} {fs3 : List Value} {x3 : Int32} (hc3 : (h)[r1]? = some (3, fs3)) (hv3 : fs3[2]? = some (.int x3)) (kt : x3 ≤ l6 → SW sc m_X8_orbitOf d rc rs 65 [none, none, none, none, none, some (.int l5), none] [] h P) (kf : ¬ (x3 ≤ l6) → SW sc m_X8_orbitOf d rc rs 29 [some (.ref r0), some (.ref r1), none, some (.int l3), some (.int l4), some (.int l5), some (.int l6)] [] h P) : SW sc m_X8_orbitOf d rc rs 20 [some (.ref r0), some (.ref r1), none, some (.int l3), some (.int l4), some (.int l5), some (.int l6)] [] h P := by
  refine sw_iload dX8_orbitOf_20 rfl ?_
  refine sw_aload_n dX8_orbitOf_22 rfl ?_
  refine sw_getf dX8_orbitOf_23 lf_X8_48 hc3 hv3 ?_
  exact sw_icmp_ge dX8_orbitOf_26 (by decide) (fun q => (sw_fg [true, true, false, true, true, false, true] rfl (kt q))) (fun q => (kf q))
theorem b_X8_orbitOf_29 {r0 : Nat} {r1 : Nat} {l3 : Int32} {l4 : Int32} {l5 : Int32} {l6 : Int32} {v3 : Int32} {g3 : ab_H} (hm3 : MSE m_X9_holds d [.int l3, .int l6] h (some (.int v3)) g3) (kt : v3 = 0 → SW sc m_X8_orbitOf (d + 1) rc rs 59 [some (.ref r0), some (.ref r1), none, some (.int l3), some (.int l4), some (.int l5), some (.int l6)] [] g3 P) (kf : ¬ (v3 = 0) → SW sc m_X8_orbitOf (d + 1) rc rs 38 [some (.ref r0), some (.ref r1), none, some (.int l3), some (.int l4), some (.int l5), some (.int l6)] [] g3 P) : SW sc m_X8_orbitOf (d + 1) rc rs 29 [some (.ref r0), some (.ref r1), none, some (.int l3), some (.int l4), some (.int l5), some (.int l6)] [] h P := by
  refine sw_iload_n dX8_orbitOf_29 rfl ?_
  refine sw_iload dX8_orbitOf_30 rfl ?_
  refine sw_cS (M := m_X8_orbitOf) dX8_orbitOf_32 ls_X8_34 hm3 rfl rfl (Nat.le_of_ble_eq_true rfl) (fun _ _ => rfl) rfl ?_
  show SW sc m_X8_orbitOf _ _ _ 35 [some (.ref r0), some (.ref r1), none, some (.int l3), some (.int l4), some (.int l5), some (.int l6)] [.int v3] g3 P
  exact sw_if_eq dX8_orbitOf_35 (by decide) (fun q => (kt q)) (fun q => (kf q))
theorem b_X8_orbitOf_38 {r0 : Nat} {r1 : Nat} {l3 : Int32} {l4 : Int32} {l5 : Int32} {l6 : Int32} {v4 : Int32} {g4 : ab_H} {fs4 : List Value} (hr4 : (h)[r0]? = some (8, fs4)) (hm4 : MSE m_X8_wordFrom d [.ref r0, .ref r1, .int l6] h (some (.int v4)) g4) (kt : ¬ v4 = l4 → SW sc m_X8_orbitOf (d + 1) rc rs 59 [some (.ref r0), some (.ref r1), none, some (.int l3), some (.int l4), some (.int l5), some (.int l6)] [] g4 P) (kf : v4 = l4 → SW sc m_X8_orbitOf (d + 1) rc rs 50 [some (.ref r0), some (.ref r1), none, some (.int l3), some (.int l4), some (.int l5), some (.int l6)] [] g4 P) : SW sc m_X8_orbitOf (d + 1) rc rs 38 [some (.ref r0), some (.ref r1), none, some (.int l3), some (.int l4), some (.int l5), some (.int l6)] [] h P := by
  refine sw_aload_n dX8_orbitOf_38 rfl ?_
  refine sw_aload_n dX8_orbitOf_39 rfl ?_
  refine sw_iload dX8_orbitOf_40 rfl ?_
  refine sw_cV (M := m_X8_orbitOf) dX8_orbitOf_42 lv_X8_78 hm4 hr4 rfl (by decide) rfl rfl rfl (Nat.le_of_ble_eq_true rfl) (fun _ _ => rfl) rfl ?_
  show SW sc m_X8_orbitOf _ _ _ 45 [some (.ref r0), some (.ref r1), none, some (.int l3), some (.int l4), some (.int l5), some (.int l6)] [.int v4] g4 P
  refine sw_iload dX8_orbitOf_45 rfl ?_
  exact sw_icmp_ne dX8_orbitOf_47 (by decide) (fun q => (kt q)) (fun q => (kf q))
theorem b_X8_orbitOf_50 {r0 : Nat} {r1 : Nat} {l3 : Int32} {l4 : Int32} {l5 : Int32} {l6 : Int32} (k : SW sc m_X8_orbitOf d rc rs 59 [some (.ref r0), some (.ref r1), none, some (.int l3), some (.int l4), some (.int (l5 ||| (1 <<< (l6 &&& 31)))), some (.int l6)] [] h P) : SW sc m_X8_orbitOf d rc rs 50 [some (.ref r0), some (.ref r1), none, some (.int l3), some (.int l4), some (.int l5), some (.int l6)] [] h P := by
  refine sw_iload dX8_orbitOf_50 rfl ?_
  refine sw_iconst (v := 1) dX8_orbitOf_52 (by decide) ?_
  refine sw_iload dX8_orbitOf_53 rfl ?_
  refine sw_ishl dX8_orbitOf_55 ?_
  refine sw_ior dX8_orbitOf_56 ?_
  refine sw_istore dX8_orbitOf_57 (by decide) rfl ?_
  show SW sc m_X8_orbitOf _ _ _ 59 [some (.ref r0), some (.ref r1), none, some (.int l3), some (.int l4), some (.int (l5 ||| (1 <<< (l6 &&& 31)))), some (.int l6)] [] h P
  exact (k)
theorem b_X8_orbitOf_59 {r0 : Nat} {r1 : Nat} {l3 : Int32} {l4 : Int32} {l5 : Int32} {l6 : Int32} (k : SW sc m_X8_orbitOf d rc rs 20 [some (.ref r0), some (.ref r1), none, some (.int l3), some (.int l4), some (.int l5), some (.int (l6 + 1))] [] h P) : SW sc m_X8_orbitOf d rc rs 59 [some (.ref r0), some (.ref r1), none, some (.int l3), some (.int l4), some (.int l5), some (.int l6)] [] h P := by
  refine sw_iinc (v := l6 + 1) dX8_orbitOf_59 rfl rfl (by decide) rfl ?_
  show SW sc m_X8_orbitOf _ _ _ 62 [some (.ref r0), some (.ref r1), none, some (.int l3), some (.int l4), some (.int l5), some (.int (l6 + 1))] [] h P
  exact sw_goto dX8_orbitOf_62 (by decide) (k)
theorem b_X8_orbitOf_65 {l5 : Int32} (hP : P (.inl (some (.int l5))) h) : SW sc m_X8_orbitOf d rc rs 65 [none, none, none, none, none, some (.int l5), none] [] h P := by
  refine sw_iload dX8_orbitOf_65 rfl ?_
  exact sw_ret (v := (some (.int l5))) dX8_orbitOf_67 rt_i hP
end
