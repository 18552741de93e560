section
variable {sc : Option (List Int32)} {d rc rs : Nat} {h : ab_H} {P : ab_O → ab_H → Prop}
theorem b_X7_answer_0 {r0 : Nat} {l1 : Int32} {l2 : Int32} (kt : l1 < 1 → SW sc m_X7_answer d rc rs 24 [some (.ref r0), some (.int l1), some (.int l2), none] [] h P) (kf : ¬ (l1 < 1) → SW sc m_X7_answer d rc rs 5 [some (.ref r0), some (.int l1), some (.int l2), none] [] h P) : SW sc m_X7_answer d rc rs 0 [some (.ref r0), some (.int l1), some (.int l2), none] [] h P := by
  refine sw_iload_n dX7_answer_0 rfl ?_
  refine sw_iconst (v := 1) dX7_answer_1 (by decide) ?_
  exact sw_icmp_lt dX7_answer_2 (by decide) (fun q => (kt q)) (fun q => (kf q))
theorem b_X7_answer_5 {r0 : Nat} {l1 : Int32} {l2 : Int32} (kt : 6 < l1 → SW sc m_X7_answer d rc rs 24 [some (.ref r0), some (.int l1), some (.int l2), none] [] h P) (kf : ¬ (6 < l1) → SW sc m_X7_answer d rc rs 11 [some (.ref r0), some (.int l1), some (.int l2), none] [] h P) : SW sc m_X7_answer d rc rs 5 [some (.ref r0), some (.int l1), some (.int l2), none] [] h P := by
  refine sw_iload_n dX7_answer_5 rfl ?_
  refine sw_bipush (v := 6) dX7_answer_6 (by decide) ?_
  exact sw_icmp_gt dX7_answer_8 (by decide) (fun q => (kt q)) (fun q => (kf q))
theorem b_X7_answer_11 {r0 : Nat} {l1 : Int32} {l2 : Int32} (kt : l2 < 0 → SW sc m_X7_answer d rc rs 24 [some (.ref r0), some (.int l1), some (.int l2), none] [] h P) (kf : ¬ (l2 < 0) → SW sc m_X7_answer d rc rs 15 [some (.ref r0), some (.int l1), some (.int l2), none] [] h P) : SW sc m_X7_answer d rc rs 11 [some (.ref r0), some (.int l1), some (.int l2), none] [] h P := by
  refine sw_iload_n dX7_answer_11 rfl ?_
  exact sw_if_lt dX7_answer_12 (by decide) (fun q => (kt q)) (fun q => (kf q))
theorem b_X7_answer_15 {r0 : Nat} {l1 : Int32} {l2 : Int32} (kt : 3 ≤ l2 → SW sc m_X7_answer d rc rs 24 [some (.ref r0), some (.int l1), some (.int l2), none] [] h P) (kf : ¬ (3 ≤ l2) → SW sc m_X7_answer d rc rs 20 [some (.ref r0), some (.int l1), some (.int l2), none] [] h P) : SW sc m_X7_answer d rc rs 15 [some (.ref r0), some (.int l1), some (.int l2), none] [] h P := by
  refine sw_iload_n dX7_answer_15 rfl ?_
  refine sw_iconst (v := 3) dX7_answer_16 (by decide) ?_
  exact sw_icmp_ge dX7_answer_17 (by decide) (fun q => (kt q)) (fun q => (kf q))
theorem b_X7_answer_20 {r0 : Nat} {l1 : Int32} {l2 : Int32} (k : SW sc m_X7_answer d rc rs 25 [some (.ref r0), some (.int l1), some (.int l2), none] [.int 1] h P) : SW sc m_X7_answer d rc rs 20 [some (.ref r0), some (.int l1), some (.int l2), none] [] h P := by
  refine sw_iconst (v := 1) dX7_answer_20 (by decide) ?_
  exact sw_goto dX7_answer_21 (by decide) (k)
theorem b_X7_answer_24 {r0 : Nat} {l1 : Int32} {l2 : Int32} (k : SW sc m_X7_answer d rc rs 25 [some (.ref r0), some (.int l1), some (.int l2), none] [.int 0] h P) : SW sc m_X7_answer d rc rs 24 [some (.ref r0), some (.int l1), some (.int l2), none] [] h P := by
  refine sw_iconst (v := 0) dX7_answer_24 (by decide) ?_
  exact (k)
theorem b_X7_answer_25 {r0 : Nat} {l1 : Int32} {l2 : Int32} {s0 : Int32} (kt : s0 = 0 → SW sc m_X7_answer d rc rs 41 [none, none, none, none] [] h P) (kf : ¬ (s0 = 0) → SW sc m_X7_answer d rc rs 30 [some (.ref r0), some (.int l1), some (.int l2), none] [] h P) : SW sc m_X7_answer d rc rs 25 [some (.ref r0), some (.int l1), some (.int l2), none] [.int s0] h P := by
  refine sw_istore_n dX7_answer_25 (by decide) rfl ?_
  show SW sc m_X7_answer _ _ _ 26 [some (.ref r0), some (.int l1), some (.int l2), some (.int s0)] [] h P
  refine sw_iload_n dX7_answer_26 rfl ?_
  exact sw_if_eq dX7_answer_27 (by decide) (fun q => (sw_fg [true, true, true, true] rfl (kt q))) (fun q => (sw_fg [false, false, false, true] rfl (kf q)))
theorem b_X7_answer_30 {r0 : Nat} {l1 : Int32} {l2 : Int32} {fs2 : List Value} {a2 : Nat} {vs4 : List Value} {a4 : Nat} {vs6 : List Value} {x6 : Int32} (hc2 : (h)[r0]? = some (7, fs2)) (hv2 : fs2[0]? = some (.ref a2)) (hc4 : (h)[a2]? = some (104, vs4)) (ho4 : ¬ l1 < 0) (hi4 : vs4[l1.toNatClampNeg]? = some (.ref a4)) (hc6 : (h)[a4]? = some (100, vs6)) (ho6 : ¬ l2 < 0) (hi6 : vs6[l2.toNatClampNeg]? = some (.int x6)) (k : SW sc m_X7_answer d rc rs 42 [none, none, none, none] [.int x6] h P) : SW sc m_X7_answer d rc rs 30 [some (.ref r0), some (.int l1), some (.int l2), none] [] h P := by
  refine sw_aload_n dX7_answer_30 rfl ?_
  refine sw_getf dX7_answer_31 lf_X7_11 hc2 hv2 ?_
  refine sw_iload_n dX7_answer_34 rfl ?_
  refine sw_aald dX7_answer_35 hc4 ho4 hi4 ?_
  refine sw_iload_n dX7_answer_36 rfl ?_
  refine sw_iald dX7_answer_37 hc6 ho6 hi6 ?_
  exact sw_goto dX7_answer_38 (by decide) (sw_fg [true, true, true, false] rfl (k))
theorem b_X7_answer_41  (k : SW sc m_X7_answer d rc rs 42 [none, none, none, none] [.int (-1)] h P) : SW sc m_X7_answer d rc rs 41 [none, none, none, none] [] h P := by
  refine sw_iconst (v := (-1)) dX7_answer_41 (by decide) ?_
  exact (k)
theorem b_X7_answer_42 {s0 : Int32} (hP : P (.inl (some (.int s0))) h) : SW sc m_X7_answer d rc rs 42 [none, none, none, none] [.int s0] h P := by
  exact sw_ret (v := (some (.int s0))) dX7_answer_42 rt_i hP
theorem b_X7_goThrough_0 {r0 : Nat} {l1 : Int32} (kt : l1 < 1 → SW sc m_X7_goThrough d rc rs 22 [none, none, none, none, none, none] [] h P) (kf : ¬ (l1 < 1) → SW sc m_X7_goThrough d rc rs 5 [some (.ref r0), some (.int l1), none, none, none, none] [] h P) : SW sc m_X7_goThrough d rc rs 0 [some (.ref r0), some (.int l1), none, none, none, none] [] h P := by
  refine sw_iload_n dX7_goThrough_0 rfl ?_
  refine sw_iconst (v := 1) dX7_goThrough_1 (by decide) ?_
  exact sw_icmp_lt dX7_goThrough_2 (by decide) (fun q => (sw_fg [true, true, false, false, false, false] rfl (kt q))) (fun q => (kf q))
theorem b_X7_goThrough_5 {r0 : Nat} {l1 : Int32} (kt : 6 < l1 → SW sc m_X7_goThrough d rc rs 22 [none, none, none, none, none, none] [] h P) (kf : ¬ (6 < l1) → SW sc m_X7_goThrough d rc rs 11 [some (.ref r0), some (.int l1), none, none, none, none] [] h P) : SW sc m_X7_goThrough d rc rs 5 [some (.ref r0), some (.int l1), none, none, none, none] [] h P := by
  refine sw_iload_n dX7_goThrough_5 rfl ?_
  refine sw_bipush (v := 6) dX7_goThrough_6 (by decide) ?_
  exact sw_icmp_gt dX7_goThrough_8 (by decide) (fun q => (sw_fg [true, true, false, false, false, false] rfl (kt q))) (fun q => (kf q))
theorem b_X7_goThrough_11 {r0 : Nat} {l1 : Int32} {fs2 : List Value} {a2 : Nat} {vs4 : List Value} {a4 : Nat} {vs6 : List Value} {x6 : Int32} (hc2 : (h)[r0]? = some (7, fs2)) (hv2 : fs2[0]? = some (.ref a2)) (hc4 : (h)[a2]? = some (104, vs4)) (ho4 : ¬ l1 < 0) (hi4 : vs4[l1.toNatClampNeg]? = some (.ref a4)) (hc6 : (h)[a4]? = some (100, vs6)) (ho6 : ¬ 0 < 0) (hi6 : vs6[(0 : Int32).toNatClampNeg]? = some (.int x6)) (kt : x6 = 0 → SW sc m_X7_goThrough d rc rs 23 [some (.ref r0), some (.int l1), none, none, none, none] [] h P) (kf : ¬ (x6 = 0) → SW sc m_X7_goThrough d rc rs 22 [none, none, none, none, none, none] [] h P) : SW sc m_X7_goThrough d rc rs 11 [some (.ref r0), some (.int l1), none, none, none, none] [] h P := by
  refine sw_aload_n dX7_goThrough_11 rfl ?_
  refine sw_getf dX7_goThrough_12 lf_X7_11 hc2 hv2 ?_
  refine sw_iload_n dX7_goThrough_15 rfl ?_
  refine sw_aald dX7_goThrough_16 hc4 ho4 hi4 ?_
  refine sw_iconst (v := 0) dX7_goThrough_17 (by decide) ?_
  refine sw_iald dX7_goThrough_18 hc6 ho6 hi6 ?_
  exact sw_if_eq dX7_goThrough_19 (by decide) (fun q => (kt q)) (fun q => (sw_fg [true, true, false, false, false, false] rfl (kf q)))
theorem b_X7_goThrough_22  (hP : P (.inl none) h) : SW sc m_X7_goThrough d rc rs 22 [none, none, none, none, none, none] [] h P := by
  exact sw_ret (v := none) dX7_goThrough_22 rt_v hP
theorem b_X7_goThrough_23 {r0 : Nat} {l1 : Int32} {fs2 : List Value} {a2 : Nat} {g3 : ab_H} {fs3 : List Value} {fs5 : List Value} {a5 : Nat} {g7 : ab_H} {fs7 : List Value} (hc2 : (h)[r0]? = some (7, fs2)) (hv2 : fs2[4]? = some (.ref a2)) (hr3 : (h)[a2]? = some (4, fs3)) (hm3 : MSE m_X4_forget d [.ref a2] h none g3) (hc5 : (g3)[r0]? = some (7, fs5)) (hv5 : fs5[1]? = some (.ref a5)) (hr7 : (g3)[a5]? = some (3, fs7)) (hm7 : MSE m_X3_clear d [.ref a5, .int l1] g3 none g7) (k : SW sc m_X7_goThrough (d + 1) rc rs 45 [some (.ref r0), some (.int l1), some (.int (-1)), some (.int 0), some (.int 0), none] [] g7 P) : SW sc m_X7_goThrough (d + 1) rc rs 23 [some (.ref r0), some (.int l1), none, none, none, none] [] h P := by
  refine sw_aload_n dX7_goThrough_23 rfl ?_
  refine sw_getf dX7_goThrough_24 lf_X7_40 hc2 hv2 ?_
  refine sw_cV dX7_goThrough_27 lv_X7_44 hm3 hr3 rfl (by decide) rfl rfl rfl (Nat.le_of_ble_eq_true rfl) (fun _ _ => rfl) rfl ?_
  show SW sc m_X7_goThrough _ _ _ 30 [some (.ref r0), some (.int l1), none, none, none, none] [] g3 P
  refine sw_aload_n dX7_goThrough_30 rfl ?_
  refine sw_getf dX7_goThrough_31 lf_X7_19 hc5 hv5 ?_
  refine sw_iload_n dX7_goThrough_34 rfl ?_
  refine sw_cV dX7_goThrough_35 lv_X7_47 hm7 hr7 rfl (by decide) rfl rfl rfl (Nat.le_of_ble_eq_true rfl) (fun _ _ => rfl) rfl ?_
  show SW sc m_X7_goThrough _ _ _ 38 [some (.ref r0), some (.int l1), none, none, none, none] [] g7 P
  refine sw_iconst (v := (-1)) dX7_goThrough_38 (by decide) ?_
  refine sw_istore_n dX7_goThrough_39 (by decide) rfl ?_
  show SW sc m_X7_goThrough _ _ _ 40 [some (.ref r0), some (.int l1), some (.int (-1)), none, none, none] [] g7 P
  refine sw_iconst (v := 0) dX7_goThrough_40 (by decide) ?_
  refine sw_istore_n dX7_goThrough_41 (by decide) rfl ?_
  show SW sc m_X7_goThrough _ _ _ 42 [some (.ref r0), some (.int l1), some (.int (-1)), some (.int 0), none, none] [] g7 P
  refine sw_iconst (v := 0) dX7_goThrough_42 (by decide) ?_
  refine sw_istore dX7_goThrough_43 (by decide) rfl ?_
  show SW sc m_X7_goThrough _ _ _ 45 [some (.ref r0), some (.int l1), some (.int (-1)), some (.int 0), some (.int 0), none] [] g7 P
  exact (k)
theorem b_X7_goThrough_45 {r0 : Nat} {l1 : Int32} {l2 : Int32} {l3 : Int32} {l4 : Int32} {v3 : Int32} {g3 : ab_H} (hm3 : MSE m_X9_treesWith d [.int l1] h (some (.int v3)) g3) (kt : v3 ≤ l4 → SW sc m_X7_goThrough (d + 1) rc rs 152 [some (.ref r0), some (.int l1), some (.int l2), some (.int l3), none, none] [] g3 P) (kf : ¬ (v3 ≤ l4) → SW sc m_X7_goThrough (d + 1) rc rs 54 [some (.ref r0), some (.int l1), some (.int l2), some (.int l3), some (.int l4), none] [] g3 P) : SW sc m_X7_goThrough (d + 1) rc rs 45 [some (.ref r0), some (.int l1), some (.int l2), some (.int l3), some (.int l4), none] [] h P := by
  refine sw_iload dX7_goThrough_45 rfl ?_
  refine sw_iload_n dX7_goThrough_47 rfl ?_
  refine sw_cS dX7_goThrough_48 ls_X7_51 hm3 rfl rfl (Nat.le_of_ble_eq_true rfl) (fun _ _ => rfl) rfl ?_
  show SW sc m_X7_goThrough _ _ _ 51 [some (.ref r0), some (.int l1), some (.int l2), some (.int l3), some (.int l4), none] [.int v3, .int l4] g3 P
  exact sw_icmp_ge dX7_goThrough_51 (by decide) (fun q => (sw_fg [false, false, false, false, true, false] rfl (kt q))) (fun q => (kf q))
theorem b_X7_goThrough_54 {r0 : Nat} {l1 : Int32} {l2 : Int32} {l3 : Int32} {l4 : Int32} {fs2 : List Value} {a2 : Nat} {g5 : ab_H} {fs5 : List Value} {fs7 : List Value} {a7 : Nat} {fs9 : List Value} {a9 : Nat} {g10 : ab_H} {fs10 : List Value} {fs12 : List Value} {a12 : Nat} {fs13 : List Value} {x13 : Int32} {fs16 : List Value} {a16 : Nat} {fs18 : List Value} {a18 : Nat} {fs20 : List Value} {a20 : Nat} {fs22 : List Value} {a22 : Nat} {v23 : Int32} {g23 : ab_H} {fs23 : List Value} {v24 : Int32} {g24 : ab_H} {fs24 : List Value} {v25 : Int32} {g25 : ab_H} {fs25 : List Value} {fs28 : List Value} {a28 : Nat} {fs29 : List Value} {x29 : Int32} (hc2 : (h)[r0]? = some (7, fs2)) (hv2 : fs2[2]? = some (.ref a2)) (hr5 : (h)[a2]? = some (1, fs5)) (hm5 : MSE m_X1_setRank d [.ref a2, .int l1, .int l4] h none g5) (hc7 : (g5)[r0]? = some (7, fs7)) (hv7 : fs7[2]? = some (.ref a7)) (hc9 : (g5)[r0]? = some (7, fs9)) (hv9 : fs9[1]? = some (.ref a9)) (hr10 : (g5)[a7]? = some (1, fs10)) (hm10 : MSE m_X1_plant d [.ref a7, .ref a9] g5 none g10) (hc12 : (g10)[r0]? = some (7, fs12)) (hv12 : fs12[4]? = some (.ref a12)) (hc13 : (g10)[a12]? = some (4, fs13)) (hv13 : fs13[1]? = some (.int x13)) (hc16 : (g10)[r0]? = some (7, fs16)) (hv16 : fs16[4]? = some (.ref a16)) (hc18 : (g10)[r0]? = some (7, fs18)) (hv18 : fs18[3]? = some (.ref a18)) (hc20 : (g10)[r0]? = some (7, fs20)) (hv20 : fs20[1]? = some (.ref a20)) (hc22 : (g10)[r0]? = some (7, fs22)) (hv22 : fs22[1]? = some (.ref a22)) (hr23 : (g10)[a22]? = some (3, fs23)) (hm23 : MSE m_X3_all d [.ref a22] g10 (some (.int v23)) g23) (hr24 : (g23)[a18]? = some (8, fs24)) (hm24 : MSE m_X8_wordOf d [.ref a18, .ref a20, .int v23] g23 (some (.int v24)) g24) (hr25 : (g24)[a16]? = some (4, fs25)) (hm25 : MSE m_X4_numberOf d [.ref a16, .int v24] g24 (some (.int v25)) g25) (hc28 : (g25)[r0]? = some (7, fs28)) (hv28 : fs28[4]? = some (.ref a28)) (hc29 : (g25)[a28]? = some (4, fs29)) (hv29 : fs29[1]? = some (.int x29)) (kt : x29 ≤ x13 → SW sc m_X7_goThrough (d + 1) rc rs 127 [some (.ref r0), some (.int l1), some (.int l2), some (.int l3), some (.int l4), none] [] g25 P) (kf : ¬ (x29 ≤ x13) → SW sc m_X7_goThrough (d + 1) rc rs 122 [some (.ref r0), some (.int l1), none, some (.int l3), some (.int l4), none] [] g25 P) : SW sc m_X7_goThrough (d + 1) rc rs 54 [some (.ref r0), some (.int l1), some (.int l2), some (.int l3), some (.int l4), none] [] h P := by
  refine sw_aload_n dX7_goThrough_54 rfl ?_
  refine sw_getf dX7_goThrough_55 lf_X7_26 hc2 hv2 ?_
  refine sw_iload_n dX7_goThrough_58 rfl ?_
  refine sw_iload dX7_goThrough_59 rfl ?_
  refine sw_cV dX7_goThrough_61 lv_X7_55 hm5 hr5 rfl (by decide) rfl rfl rfl (Nat.le_of_ble_eq_true rfl) (fun _ _ => rfl) rfl ?_
  show SW sc m_X7_goThrough _ _ _ 64 [some (.ref r0), some (.int l1), some (.int l2), some (.int l3), some (.int l4), none] [] g5 P
  refine sw_aload_n dX7_goThrough_64 rfl ?_
  refine sw_getf dX7_goThrough_65 lf_X7_26 hc7 hv7 ?_
  refine sw_aload_n dX7_goThrough_68 rfl ?_
  refine sw_getf dX7_goThrough_69 lf_X7_19 hc9 hv9 ?_
  refine sw_cV dX7_goThrough_72 lv_X7_59 hm10 hr10 rfl (by decide) rfl rfl rfl (Nat.le_of_ble_eq_true rfl) (fun _ _ => rfl) rfl ?_
  show SW sc m_X7_goThrough _ _ _ 75 [some (.ref r0), some (.int l1), some (.int l2), some (.int l3), some (.int l4), none] [] g10 P
  refine sw_aload_n dX7_goThrough_75 rfl ?_
  refine sw_getf dX7_goThrough_76 lf_X7_40 hc12 hv12 ?_
  refine sw_getf dX7_goThrough_79 lf_X7_63 hc13 hv13 ?_
  refine sw_istore dX7_goThrough_82 (by decide) rfl ?_
  show SW sc m_X7_goThrough _ _ _ 84 [some (.ref r0), some (.int l1), some (.int l2), some (.int l3), some (.int l4), some (.int x13)] [] g10 P
  refine sw_aload_n dX7_goThrough_84 rfl ?_
  refine sw_getf dX7_goThrough_85 lf_X7_40 hc16 hv16 ?_
  refine sw_aload_n dX7_goThrough_88 rfl ?_
  refine sw_getf dX7_goThrough_89 lf_X7_33 hc18 hv18 ?_
  refine sw_aload_n dX7_goThrough_92 rfl ?_
  refine sw_getf dX7_goThrough_93 lf_X7_19 hc20 hv20 ?_
  refine sw_aload_n dX7_goThrough_96 rfl ?_
  refine sw_getf dX7_goThrough_97 lf_X7_19 hc22 hv22 ?_
  refine sw_cV dX7_goThrough_100 lv_X7_67 hm23 hr23 rfl (by decide) rfl rfl rfl (Nat.le_of_ble_eq_true rfl) (fun _ _ => rfl) rfl ?_
  show SW sc m_X7_goThrough _ _ _ 103 [some (.ref r0), some (.int l1), some (.int l2), some (.int l3), some (.int l4), some (.int x13)] [.int v23, .ref a20, .ref a18, .ref a16] g23 P
  refine sw_cV dX7_goThrough_103 lv_X7_71 hm24 hr24 rfl (by decide) rfl rfl rfl (Nat.le_of_ble_eq_true rfl) (fun _ _ => rfl) rfl ?_
  show SW sc m_X7_goThrough _ _ _ 106 [some (.ref r0), some (.int l1), some (.int l2), some (.int l3), some (.int l4), some (.int x13)] [.int v24, .ref a16] g24 P
  refine sw_cV dX7_goThrough_106 lv_X7_75 hm25 hr25 rfl (by decide) rfl rfl rfl (Nat.le_of_ble_eq_true rfl) (fun _ _ => rfl) rfl ?_
  show SW sc m_X7_goThrough _ _ _ 109 [some (.ref r0), some (.int l1), some (.int l2), some (.int l3), some (.int l4), some (.int x13)] [.int v25] g25 P
  refine sw_pop dX7_goThrough_109 (fun _ _ => rfl) ?_
  refine sw_aload_n dX7_goThrough_110 rfl ?_
  refine sw_getf dX7_goThrough_111 lf_X7_40 hc28 hv28 ?_
  refine sw_getf dX7_goThrough_114 lf_X7_63 hc29 hv29 ?_
  refine sw_iload dX7_goThrough_117 rfl ?_
  exact sw_icmp_le dX7_goThrough_119 (by decide) (fun q => (sw_fg [false, false, false, false, false, true] rfl (kt q))) (fun q => (sw_fg [false, false, true, false, false, true] rfl (kf q)))
theorem b_X7_goThrough_122 {r0 : Nat} {l1 : Int32} {l3 : Int32} {l4 : Int32} (k : SW sc m_X7_goThrough d rc rs 128 [some (.ref r0), some (.int l1), none, some (.int l3), some (.int l4), none] [.int l4] h P) : SW sc m_X7_goThrough d rc rs 122 [some (.ref r0), some (.int l1), none, some (.int l3), some (.int l4), none] [] h P := by
  refine sw_iload dX7_goThrough_122 rfl ?_
  exact sw_goto dX7_goThrough_124 (by decide) (k)
theorem b_X7_goThrough_127 {r0 : Nat} {l1 : Int32} {l2 : Int32} {l3 : Int32} {l4 : Int32} (k : SW sc m_X7_goThrough d rc rs 128 [some (.ref r0), some (.int l1), none, some (.int l3), some (.int l4), none] [.int l2] h P) : SW sc m_X7_goThrough d rc rs 127 [some (.ref r0), some (.int l1), some (.int l2), some (.int l3), some (.int l4), none] [] h P := by
  refine sw_iload_n dX7_goThrough_127 rfl ?_
  exact (sw_fg [false, false, true, false, false, false] rfl (k))
theorem b_X7_goThrough_128 {r0 : Nat} {l1 : Int32} {l3 : Int32} {l4 : Int32} {s0 : Int32} {fs4 : List Value} {a4 : Nat} {fs6 : List Value} {a6 : Nat} {v7 : Int32} {g7 : ab_H} {fs7 : List Value} {v8 : Int32} {g8 : ab_H} {fs8 : List Value} (hc4 : (h)[r0]? = some (7, fs4)) (hv4 : fs4[1]? = some (.ref a4)) (hc6 : (h)[r0]? = some (7, fs6)) (hv6 : fs6[1]? = some (.ref a6)) (hr7 : (h)[a6]? = some (3, fs7)) (hm7 : MSE m_X3_all d [.ref a6] h (some (.int v7)) g7) (hr8 : (g7)[a4]? = some (3, fs8)) (hm8 : MSE m_X3_diameter d [.ref a4, .int v7] g7 (some (.int v8)) g8) (k : SW sc m_X7_goThrough (d + 1) rc rs 45 [some (.ref r0), some (.int l1), some (.int s0), some (.int (l3 + v8)), some (.int (l4 + 1)), none] [] g8 P) : SW sc m_X7_goThrough (d + 1) rc rs 128 [some (.ref r0), some (.int l1), none, some (.int l3), some (.int l4), none] [.int s0] h P := by
  refine sw_istore_n dX7_goThrough_128 (by decide) rfl ?_
  show SW sc m_X7_goThrough _ _ _ 129 [some (.ref r0), some (.int l1), some (.int s0), some (.int l3), some (.int l4), none] [] h P
  refine sw_iload_n dX7_goThrough_129 rfl ?_
  refine sw_aload_n dX7_goThrough_130 rfl ?_
  refine sw_getf dX7_goThrough_131 lf_X7_19 hc4 hv4 ?_
  refine sw_aload_n dX7_goThrough_134 rfl ?_
  refine sw_getf dX7_goThrough_135 lf_X7_19 hc6 hv6 ?_
  refine sw_cV dX7_goThrough_138 lv_X7_67 hm7 hr7 rfl (by decide) rfl rfl rfl (Nat.le_of_ble_eq_true rfl) (fun _ _ => rfl) rfl ?_
  show SW sc m_X7_goThrough _ _ _ 141 [some (.ref r0), some (.int l1), some (.int s0), some (.int l3), some (.int l4), none] [.int v7, .ref a4, .int l3] g7 P
  refine sw_cV dX7_goThrough_141 lv_X7_78 hm8 hr8 rfl (by decide) rfl rfl rfl (Nat.le_of_ble_eq_true rfl) (fun _ _ => rfl) rfl ?_
  show SW sc m_X7_goThrough _ _ _ 144 [some (.ref r0), some (.int l1), some (.int s0), some (.int l3), some (.int l4), none] [.int v8, .int l3] g8 P
  refine sw_iadd dX7_goThrough_144 ?_
  refine sw_istore_n dX7_goThrough_145 (by decide) rfl ?_
  show SW sc m_X7_goThrough _ _ _ 146 [some (.ref r0), some (.int l1), some (.int s0), some (.int (l3 + v8)), some (.int l4), none] [] g8 P
  refine sw_iinc (v := l4 + 1) dX7_goThrough_146 rfl rfl (by decide) rfl ?_
  show SW sc m_X7_goThrough _ _ _ 149 [some (.ref r0), some (.int l1), some (.int s0), some (.int (l3 + v8)), some (.int (l4 + 1)), none] [] g8 P
  exact sw_goto dX7_goThrough_149 (by decide) (k)
theorem b_X7_goThrough_152 {r0 : Nat} {l1 : Int32} {l2 : Int32} {l3 : Int32} {fs2 : List Value} {a2 : Nat} {vs4 : List Value} {a4 : Nat} {fs7 : List Value} {a7 : Nat} {fs8 : List Value} {x8 : Int32} {vs9 : List Value} {fs11 : List Value} {a11 : Nat} {vs13 : List Value} {a13 : Nat} {vs16 : List Value} {fs18 : List Value} {a18 : Nat} {vs20 : List Value} {a20 : Nat} {vs23 : List Value} (hc2 : (h)[r0]? = some (7, fs2)) (hv2 : fs2[0]? = some (.ref a2)) (hc4 : (h)[a2]? = some (104, vs4)) (ho4 : ¬ l1 < 0) (hi4 : vs4[l1.toNatClampNeg]? = some (.ref a4)) (hc7 : (h)[r0]? = some (7, fs7)) (hv7 : fs7[4]? = some (.ref a7)) (hc8 : (h)[a7]? = some (4, fs8)) (hv8 : fs8[1]? = some (.int x8)) (hc9 : (h)[a4]? = some (100, vs9)) (ho9 : ¬ 0 < 0) (hl9 : (0 : Int32).toNatClampNeg < vs9.length) (hc11 : ((h).set a4 (100, vs9.set (0 : Int32).toNatClampNeg (.int x8)))[r0]? = some (7, fs11)) (hv11 : fs11[0]? = some (.ref a11)) (hc13 : ((h).set a4 (100, vs9.set (0 : Int32).toNatClampNeg (.int x8)))[a11]? = some (104, vs13)) (ho13 : ¬ l1 < 0) (hi13 : vs13[l1.toNatClampNeg]? = some (.ref a13)) (hc16 : ((h).set a4 (100, vs9.set (0 : Int32).toNatClampNeg (.int x8)))[a13]? = some (100, vs16)) (ho16 : ¬ 1 < 0) (hl16 : (1 : Int32).toNatClampNeg < vs16.length) (hc18 : (((h).set a4 (100, vs9.set (0 : Int32).toNatClampNeg (.int x8))).set a13 (100, vs16.set (1 : Int32).toNatClampNeg (.int l2)))[r0]? = some (7, fs18)) (hv18 : fs18[0]? = some (.ref a18)) (hc20 : (((h).set a4 (100, vs9.set (0 : Int32).toNatClampNeg (.int x8))).set a13 (100, vs16.set (1 : Int32).toNatClampNeg (.int l2)))[a18]? = some (104, vs20)) (ho20 : ¬ l1 < 0) (hi20 : vs20[l1.toNatClampNeg]? = some (.ref a20)) (hc23 : (((h).set a4 (100, vs9.set (0 : Int32).toNatClampNeg (.int x8))).set a13 (100, vs16.set (1 : Int32).toNatClampNeg (.int l2)))[a20]? = some (100, vs23)) (ho23 : ¬ 2 < 0) (hl23 : (2 : Int32).toNatClampNeg < vs23.length) (hP : P (.inl none) ((((h).set a4 (100, vs9.set (0 : Int32).toNatClampNeg (.int x8))).set a13 (100, vs16.set (1 : Int32).toNatClampNeg (.int l2))).set a20 (100, vs23.set (2 : Int32).toNatClampNeg (.int l3)))) : SW sc m_X7_goThrough d rc rs 152 [some (.ref r0), some (.int l1), some (.int l2), some (.int l3), none, none] [] h P := by
  refine sw_aload_n dX7_goThrough_152 rfl ?_
  refine sw_getf dX7_goThrough_153 lf_X7_11 hc2 hv2 ?_
  refine sw_iload_n dX7_goThrough_156 rfl ?_
  refine sw_aald dX7_goThrough_157 hc4 ho4 hi4 ?_
  refine sw_iconst (v := 0) dX7_goThrough_158 (by decide) ?_
  refine sw_aload_n dX7_goThrough_159 rfl ?_
  refine sw_getf dX7_goThrough_160 lf_X7_40 hc7 hv7 ?_
  refine sw_getf dX7_goThrough_163 lf_X7_63 hc8 hv8 ?_
  refine sw_iast dX7_goThrough_166 hc9 ho9 hl9 ?_
  refine sw_aload_n dX7_goThrough_167 rfl ?_
  refine sw_getf dX7_goThrough_168 lf_X7_11 hc11 hv11 ?_
  refine sw_iload_n dX7_goThrough_171 rfl ?_
  refine sw_aald dX7_goThrough_172 hc13 ho13 hi13 ?_
  refine sw_iconst (v := 1) dX7_goThrough_173 (by decide) ?_
  refine sw_iload_n dX7_goThrough_174 rfl ?_
  refine sw_iast dX7_goThrough_175 hc16 ho16 hl16 ?_
  refine sw_aload_n dX7_goThrough_176 rfl ?_
  refine sw_getf dX7_goThrough_177 lf_X7_11 hc18 hv18 ?_
  refine sw_iload_n dX7_goThrough_180 rfl ?_
  refine sw_aald dX7_goThrough_181 hc20 ho20 hi20 ?_
  refine sw_iconst (v := 2) dX7_goThrough_182 (by decide) ?_
  refine sw_iload_n dX7_goThrough_183 rfl ?_
  refine sw_iast dX7_goThrough_184 hc23 ho23 hl23 ?_
  exact sw_ret (v := none) dX7_goThrough_185 rt_v hP
theorem b_X8_signAt_0 {l0 : Int32} {l1 : Int32} {v5 : Int32} {g5 : ab_H} (hm5 : MSE m_X9_holds d [.int l0, .int (19 - l1)] h (some (.int v5)) g5) (kt : v5 = 0 → SW sc m_X8_signAt (d + 1) rc rs 16 [none, none] [] g5 P) (kf : ¬ (v5 = 0) → SW sc m_X8_signAt (d + 1) rc rs 11 [none, none] [] g5 P) : SW sc m_X8_signAt (d + 1) rc rs 0 [some (.int l0), some (.int l1)] [] h P := by
  refine sw_iload_n dX8_signAt_0 rfl ?_
  refine sw_bipush (v := 19) dX8_signAt_1 (by decide) ?_
  refine sw_iload_n dX8_signAt_3 rfl ?_
  refine sw_isub dX8_signAt_4 ?_
  refine sw_cS dX8_signAt_5 ls_X8_34 hm5 rfl rfl (Nat.le_of_ble_eq_true rfl) (fun _ _ => rfl) rfl ?_
  show SW sc m_X8_signAt _ _ _ 8 [some (.int l0), some (.int l1)] [.int v5] g5 P
  exact sw_if_eq dX8_signAt_8 (by decide) (fun q => (sw_fg [true, true] rfl (kt q))) (fun q => (sw_fg [true, true] rfl (kf q)))
theorem b_X8_signAt_11  (k : SW sc m_X8_signAt d rc rs 18 [none, none] [.int 41] h P) : SW sc m_X8_signAt d rc rs 11 [none, none] [] h P := by
  refine sw_bipush (v := 41) dX8_signAt_11 (by decide) ?_
  exact sw_goto dX8_signAt_13 (by decide) (k)
theorem b_X8_signAt_16  (k : SW sc m_X8_signAt d rc rs 18 [none, none] [.int 40] h P) : SW sc m_X8_signAt d rc rs 16 [none, none] [] h P := by
  refine sw_bipush (v := 40) dX8_signAt_16 (by decide) ?_
  exact (k)
theorem b_X8_signAt_18 {s0 : Int32} (hP : P (.inl (some (.int s0))) h) : SW sc m_X8_signAt d rc rs 18 [none, none] [.int s0] h P := by
  exact sw_ret (v := (some (.int s0))) dX8_signAt_18 rt_i hP
theorem b_X8_wordFrom_0 {r0 : Nat} {r1 : Nat} {l2 : Int32} {v3 : Int32} {g3 : ab_H} {fs3 : List Value} (hr3 : (h)[r1]? = some (3, fs3)) (hm3 : MSE m_X3_isVertex d [.ref r1, .int l2] h (some (.int v3)) g3) (kt : ¬ v3 = 0 → SW sc m_X8_wordFrom (d + 1) rc rs 10 [some (.ref r0), some (.ref r1), some (.int l2), none, none, none] [] g3 P) (kf : v3 = 0 → SW sc m_X8_wordFrom (d + 1) rc rs 8 [none, none, none, none, none, none] [] g3 P) : SW sc m_X8_wordFrom (d + 1) rc rs 0 [some (.ref r0), some (.ref r1), some (.int l2), none, none, none] [] h P := by
  refine sw_aload_n dX8_wordFrom_0 rfl ?_
  refine sw_iload_n dX8_wordFrom_1 rfl ?_
  refine sw_cV dX8_wordFrom_2 lv_X8_38 hm3 hr3 rfl (by decide) rfl rfl rfl (Nat.le_of_ble_eq_true rfl) (fun _ _ => rfl) rfl ?_
  show SW sc m_X8_wordFrom _ _ _ 5 [some (.ref r0), some (.ref r1), some (.int l2), none, none, none] [.int v3] g3 P
  exact sw_if_ne dX8_wordFrom_5 (by decide) (fun q => (kt q)) (fun q => (sw_fg [true, true, true, false, false, false] rfl (kf q)))
theorem b_X8_wordFrom_8  (hP : P (.inl (some (.int (-1)))) h) : SW sc m_X8_wordFrom d rc rs 8 [none, none, none, none, none, none] [] h P := by
  refine sw_iconst (v := (-1)) dX8_wordFrom_8 (by decide) ?_
  exact sw_ret (v := (some (.int (-1)))) dX8_wordFrom_9 rt_i hP
theorem b_X8_wordFrom_10 {r0 : Nat} {r1 : Nat} {l2 : Int32} {v6 : Int32} {g6 : ab_H} {fs6 : List Value} (hr6 : (h)[r0]? = some (8, fs6)) (hm6 : MSE m_X8_layLevels d [.ref r0, .ref r1, .int l2] h (some (.int v6)) g6) (k : SW sc m_X8_wordFrom (d + 1) rc rs 22 [some (.ref r0), some (.ref r1), some (.int l2), some (.int 0), some (.int (v6 - 1)), none] [] g6 P) : SW sc m_X8_wordFrom (d + 1) rc rs 10 [some (.ref r0), some (.ref r1), some (.int l2), none, none, none] [] h P := by
  refine sw_iconst (v := 0) dX8_wordFrom_10 (by decide) ?_
  refine sw_istore_n dX8_wordFrom_11 (by decide) rfl ?_
  show SW sc m_X8_wordFrom _ _ _ 12 [some (.ref r0), some (.ref r1), some (.int l2), some (.int 0), none, none] [] h P
  refine sw_aload_n dX8_wordFrom_12 rfl ?_
  refine sw_aload_n dX8_wordFrom_13 rfl ?_
  refine sw_iload_n dX8_wordFrom_14 rfl ?_
  refine sw_cV dX8_wordFrom_15 lv_X8_44 hm6 hr6 rfl (by decide) rfl rfl rfl (Nat.le_of_ble_eq_true rfl) (fun _ _ => rfl) rfl ?_
  show SW sc m_X8_wordFrom _ _ _ 18 [some (.ref r0), some (.ref r1), some (.int l2), some (.int 0), none, none] [.int v6] g6 P
  refine sw_iconst (v := 1) dX8_wordFrom_18 (by decide) ?_
  refine sw_isub dX8_wordFrom_19 ?_
  refine sw_istore dX8_wordFrom_20 (by decide) rfl ?_
  show SW sc m_X8_wordFrom _ _ _ 22 [some (.ref r0), some (.ref r1), some (.int l2), some (.int 0), some (.int (v6 - 1)), none] [] g6 P
  exact (k)
theorem b_X8_wordFrom_22 {r0 : Nat} {r1 : Nat} {l2 : Int32} {l3 : Int32} {l4 : Int32} (kt : l4 < 0 → SW sc m_X8_wordFrom d rc rs 88 [some (.ref r0), none, some (.int l2), none, none, none] [] h P) (kf : ¬ (l4 < 0) → SW sc m_X8_wordFrom d rc rs 27 [some (.ref r0), some (.ref r1), some (.int l2), some (.int l3), some (.int l4), none] [] h P) : SW sc m_X8_wordFrom d rc rs 22 [some (.ref r0), some (.ref r1), some (.int l2), some (.int l3), some (.int l4), none] [] h P := by
  refine sw_iload dX8_wordFrom_22 rfl ?_
  exact sw_if_lt dX8_wordFrom_24 (by decide) (fun q => (sw_fg [false, true, false, true, true, false] rfl (kt q))) (fun q => (kf q))
theorem b_X8_wordFrom_27 {r0 : Nat} {r1 : Nat} {l2 : Int32} {l3 : Int32} {l4 : Int32} (k : SW sc m_X8_wordFrom d rc rs 30 [some (.ref r0), some (.ref r1), some (.int l2), some (.int l3), some (.int l4), some (.int 0)] [] h P) : SW sc m_X8_wordFrom d rc rs 27 [some (.ref r0), some (.ref r1), some (.int l2), some (.int l3), some (.int l4), none] [] h P := by
  refine sw_iconst (v := 0) dX8_wordFrom_27 (by decide) ?_
  refine sw_istore dX8_wordFrom_28 (by decide) rfl ?_
  show SW sc m_X8_wordFrom _ _ _ 30 [some (.ref r0), some (.ref r1), some (.int l2), some (.int l3), some (.int l4), some (.int 0)] [] h P
  exact (k)
theorem b_X8_wordFrom_30 {r0 : Nat} {r1 : Nat} {l2 : Int32} {l3 : Int32} {l4 : Int32} {l5 : Int32} {fs3 : List Value} {x3 : Int32} (hc3 : (h)[r1]? = some (3, fs3)) (hv3 : fs3[2]? = some (.int x3)) (kt : x3 ≤ l5 → SW sc m_X8_wordFrom d rc rs 74 [some (.ref r0), some (.ref r1), some (.int l2), none, some (.int l4), none] [] h P) (kf : ¬ (x3 ≤ l5) → SW sc m_X8_wordFrom d rc rs 39 [some (.ref r0), some (.ref r1), some (.int l2), some (.int l3), some (.int l4), some (.int l5)] [] h P) : SW sc m_X8_wordFrom d rc rs 30 [some (.ref r0), some (.ref r1), some (.int l2), some (.int l3), some (.int l4), some (.int l5)] [] h P := by
  refine sw_iload dX8_wordFrom_30 rfl ?_
  refine sw_aload_n dX8_wordFrom_32 rfl ?_
  refine sw_getf dX8_wordFrom_33 lf_X8_48 hc3 hv3 ?_
  exact sw_icmp_ge dX8_wordFrom_36 (by decide) (fun q => (sw_fg [false, false, false, true, false, true] rfl (kt q))) (fun q => (kf q))
theorem b_X8_wordFrom_39 {r0 : Nat} {r1 : Nat} {l2 : Int32} {l3 : Int32} {l4 : Int32} {l5 : Int32} {fs2 : List Value} {a2 : Nat} {vs4 : List Value} {x4 : Int32} {v6 : Int32} {g6 : ab_H} (hc2 : (h)[r0]? = some (8, fs2)) (hv2 : fs2[0]? = some (.ref a2)) (hc4 : (h)[a2]? = some (100, vs4)) (ho4 : ¬ l4 < 0) (hi4 : vs4[l4.toNatClampNeg]? = some (.int x4)) (hm6 : MSE m_X9_holds d [.int x4, .int l5] h (some (.int v6)) g6) (kt : v6 = 0 → SW sc m_X8_wordFrom (d + 1) rc rs 68 [some (.ref r0), some (.ref r1), some (.int l2), some (.int l3), some (.int l4), some (.int l5)] [] g6 P) (kf : ¬ (v6 = 0) → SW sc m_X8_wordFrom (d + 1) rc rs 54 [some (.ref r0), some (.ref r1), some (.int l2), some (.int l3), some (.int l4), some (.int l5)] [] g6 P) : SW sc m_X8_wordFrom (d + 1) rc rs 39 [some (.ref r0), some (.ref r1), some (.int l2), some (.int l3), some (.int l4), some (.int l5)] [] h P := by
  refine sw_aload_n dX8_wordFrom_39 rfl ?_
  refine sw_getf dX8_wordFrom_40 lf_X8_9 hc2 hv2 ?_
  refine sw_iload dX8_wordFrom_43 rfl ?_
  refine sw_iald dX8_wordFrom_45 hc4 ho4 hi4 ?_
  refine sw_iload dX8_wordFrom_46 rfl ?_
  refine sw_cS dX8_wordFrom_48 ls_X8_34 hm6 rfl rfl (Nat.le_of_ble_eq_true rfl) (fun _ _ => rfl) rfl ?_
  show SW sc m_X8_wordFrom _ _ _ 51 [some (.ref r0), some (.ref r1), some (.int l2), some (.int l3), some (.int l4), some (.int l5)] [.int v6] g6 P
  exact sw_if_eq dX8_wordFrom_51 (by decide) (fun q => (kt q)) (fun q => (kf q))
theorem b_X8_wordFrom_54 {r0 : Nat} {r1 : Nat} {l2 : Int32} {l3 : Int32} {l4 : Int32} {l5 : Int32} {v5 : Int32} {g5 : ab_H} {fs5 : List Value} {g8 : ab_H} {fs8 : List Value} (hr5 : (h)[r1]? = some (3, fs5)) (hm5 : MSE m_X3_nearOf d [.ref r1, .int l5] h (some (.int v5)) g5) (hr8 : (g5)[r0]? = some (8, fs8)) (hm8 : MSE m_X8_assemble d [.ref r0, .int l5, .int (v5 &&& l3)] g5 none g8) (k : SW sc m_X8_wordFrom (d + 1) rc rs 68 [some (.ref r0), some (.ref r1), some (.int l2), some (.int l3), some (.int l4), some (.int l5)] [] g8 P) : SW sc m_X8_wordFrom (d + 1) rc rs 54 [some (.ref r0), some (.ref r1), some (.int l2), some (.int l3), some (.int l4), some (.int l5)] [] h P := by
  refine sw_aload_n dX8_wordFrom_54 rfl ?_
  refine sw_iload dX8_wordFrom_55 rfl ?_
  refine sw_aload_n dX8_wordFrom_57 rfl ?_
  refine sw_iload dX8_wordFrom_58 rfl ?_
  refine sw_cV dX8_wordFrom_60 lv_X8_52 hm5 hr5 rfl (by decide) rfl rfl rfl (Nat.le_of_ble_eq_true rfl) (fun _ _ => rfl) rfl ?_
  show SW sc m_X8_wordFrom _ _ _ 63 [some (.ref r0), some (.ref r1), some (.int l2), some (.int l3), some (.int l4), some (.int l5)] [.int v5, .int l5, .ref r0] g5 P
  refine sw_iload_n dX8_wordFrom_63 rfl ?_
  refine sw_iand dX8_wordFrom_64 ?_
  refine sw_cV dX8_wordFrom_65 lv_X8_56 hm8 hr8 rfl (by decide) rfl rfl rfl (Nat.le_of_ble_eq_true rfl) (fun _ _ => rfl) rfl ?_
  show SW sc m_X8_wordFrom _ _ _ 68 [some (.ref r0), some (.ref r1), some (.int l2), some (.int l3), some (.int l4), some (.int l5)] [] g8 P
  exact (k)
theorem b_X8_wordFrom_68 {r0 : Nat} {r1 : Nat} {l2 : Int32} {l3 : Int32} {l4 : Int32} {l5 : Int32} (k : SW sc m_X8_wordFrom d rc rs 30 [some (.ref r0), some (.ref r1), some (.int l2), some (.int l3), some (.int l4), some (.int (l5 + 1))] [] h P) : SW sc m_X8_wordFrom d rc rs 68 [some (.ref r0), some (.ref r1), some (.int l2), some (.int l3), some (.int l4), some (.int l5)] [] h P := by
  refine sw_iinc (v := l5 + 1) dX8_wordFrom_68 rfl rfl (by decide) rfl ?_
  show SW sc m_X8_wordFrom _ _ _ 71 [some (.ref r0), some (.ref r1), some (.int l2), some (.int l3), some (.int l4), some (.int (l5 + 1))] [] h P
  exact sw_goto dX8_wordFrom_71 (by decide) (k)
theorem b_X8_wordFrom_74 {r0 : Nat} {r1 : Nat} {l2 : Int32} {l4 : Int32} {fs2 : List Value} {a2 : Nat} {vs4 : List Value} {x4 : Int32} (hc2 : (h)[r0]? = some (8, fs2)) (hv2 : fs2[0]? = some (.ref a2)) (hc4 : (h)[a2]? = some (100, vs4)) (ho4 : ¬ l4 < 0) (hi4 : vs4[l4.toNatClampNeg]? = some (.int x4)) (k : SW sc m_X8_wordFrom d rc rs 22 [some (.ref r0), some (.ref r1), some (.int l2), some (.int x4), some (.int (l4 + (-1))), none] [] h P) : SW sc m_X8_wordFrom d rc rs 74 [some (.ref r0), some (.ref r1), some (.int l2), none, some (.int l4), none] [] h P := by
  refine sw_aload_n dX8_wordFrom_74 rfl ?_
  refine sw_getf dX8_wordFrom_75 lf_X8_9 hc2 hv2 ?_
  refine sw_iload dX8_wordFrom_78 rfl ?_
  refine sw_iald dX8_wordFrom_80 hc4 ho4 hi4 ?_
  refine sw_istore_n dX8_wordFrom_81 (by decide) rfl ?_
  show SW sc m_X8_wordFrom _ _ _ 82 [some (.ref r0), some (.ref r1), some (.int l2), some (.int x4), some (.int l4), none] [] h P
  refine sw_iinc (v := l4 + (-1)) dX8_wordFrom_82 rfl rfl (by decide) rfl ?_
  show SW sc m_X8_wordFrom _ _ _ 85 [some (.ref r0), some (.ref r1), some (.int l2), some (.int x4), some (.int (l4 + (-1))), none] [] h P
  exact sw_goto dX8_wordFrom_85 (by decide) (k)
theorem b_X8_wordFrom_88 {r0 : Nat} {l2 : Int32} {fs2 : List Value} {a2 : Nat} {vs4 : List Value} {x4 : Int32} (hc2 : (h)[r0]? = some (8, fs2)) (hv2 : fs2[1]? = some (.ref a2)) (hc4 : (h)[a2]? = some (100, vs4)) (ho4 : ¬ l2 < 0) (hi4 : vs4[l2.toNatClampNeg]? = some (.int x4)) (hP : P (.inl (some (.int x4))) h) : SW sc m_X8_wordFrom d rc rs 88 [some (.ref r0), none, some (.int l2), none, none, none] [] h P := by
  refine sw_aload_n dX8_wordFrom_88 rfl ?_
  refine sw_getf dX8_wordFrom_89 lf_X8_15 hc2 hv2 ?_
  refine sw_iload_n dX8_wordFrom_92 rfl ?_
  refine sw_iald dX8_wordFrom_93 hc4 ho4 hi4 ?_
  exact sw_ret (v := (some (.int x4))) dX8_wordFrom_94 rt_i hP
theorem b_X8_layLevels_0 {r0 : Nat} {r1 : Nat} {l2 : Int32} (k : SW sc m_X8_layLevels d rc rs 10 [some (.ref r0), some (.ref r1), none, some (.int 0), some (.int (1 <<< (l2 &&& 31))), some (.int 0)] [] h P) : SW sc m_X8_layLevels d rc rs 0 [some (.ref r0), some (.ref r1), some (.int l2), none, none, none] [] h P := by
  refine sw_iconst (v := 0) dX8_layLevels_0 (by decide) ?_
  refine sw_istore_n dX8_layLevels_1 (by decide) rfl ?_
  show SW sc m_X8_layLevels _ _ _ 2 [some (.ref r0), some (.ref r1), some (.int l2), some (.int 0), none, none] [] h P
  refine sw_iconst (v := 1) dX8_layLevels_2 (by decide) ?_
  refine sw_iload_n dX8_layLevels_3 rfl ?_
  refine sw_ishl dX8_layLevels_4 ?_
  refine sw_istore dX8_layLevels_5 (by decide) rfl ?_
  show SW sc m_X8_layLevels _ _ _ 7 [some (.ref r0), some (.ref r1), some (.int l2), some (.int 0), some (.int (1 <<< (l2 &&& 31))), none] [] h P
  refine sw_iconst (v := 0) dX8_layLevels_7 (by decide) ?_
  refine sw_istore dX8_layLevels_8 (by decide) rfl ?_
  show SW sc m_X8_layLevels _ _ _ 10 [some (.ref r0), some (.ref r1), some (.int l2), some (.int 0), some (.int (1 <<< (l2 &&& 31))), some (.int 0)] [] h P
  exact (sw_fg [false, false, true, false, false, false] rfl (k))
theorem b_X8_layLevels_10 {r0 : Nat} {r1 : Nat} {l3 : Int32} {l4 : Int32} {l5 : Int32} (kt : l4 = 0 → SW sc m_X8_layLevels d rc rs 54 [none, none, none, none, none, some (.int l5)] [] h P) (kf : ¬ (l4 = 0) → SW sc m_X8_layLevels d rc rs 15 [some (.ref r0), some (.ref r1), none, some (.int l3), some (.int l4), some (.int l5)] [] h P) : SW sc m_X8_layLevels d rc rs 10 [some (.ref r0), some (.ref r1), none, some (.int l3), some (.int l4), some (.int l5)] [] h P := by
  refine sw_iload dX8_layLevels_10 rfl ?_
  exact sw_if_eq dX8_layLevels_12 (by decide) (fun q => (sw_fg [true, true, false, true, true, false] rfl (kt q))) (fun q => (kf q))
theorem b_X8_layLevels_15 {r0 : Nat} {r1 : Nat} {l3 : Int32} {l4 : Int32} {l5 : Int32} (kt : 10 ≤ l5 → SW sc m_X8_layLevels d rc rs 54 [none, none, none, none, none, some (.int l5)] [] h P) (kf : ¬ (10 ≤ l5) → SW sc m_X8_layLevels d rc rs 22 [some (.ref r0), some (.ref r1), none, some (.int l3), some (.int l4), some (.int l5)] [] h P) : SW sc m_X8_layLevels d rc rs 15 [some (.ref r0), some (.ref r1), none, some (.int l3), some (.int l4), some (.int l5)] [] h P := by
  refine sw_iload dX8_layLevels_15 rfl ?_
  refine sw_bipush (v := 10) dX8_layLevels_17 (by decide) ?_
  exact sw_icmp_ge dX8_layLevels_19 (by decide) (fun q => (sw_fg [true, true, false, true, true, false] rfl (kt q))) (fun q => (kf q))
theorem b_X8_layLevels_22 {r0 : Nat} {r1 : Nat} {l3 : Int32} {l4 : Int32} {l5 : Int32} {fs2 : List Value} {a2 : Nat} {vs5 : List Value} {v13 : Int32} {g13 : ab_H} {fs13 : List Value} (hc2 : (h)[r0]? = some (8, fs2)) (hv2 : fs2[0]? = some (.ref a2)) (hc5 : (h)[a2]? = some (100, vs5)) (ho5 : ¬ l5 < 0) (hl5 : l5.toNatClampNeg < vs5.length) (hr13 : ((h).set a2 (100, vs5.set l5.toNatClampNeg (.int l4)))[r1]? = some (3, fs13)) (hm13 : MSE m_X3_withNeighbors d [.ref r1, .int l4] ((h).set a2 (100, vs5.set l5.toNatClampNeg (.int l4))) (some (.int v13)) g13) (k : SW sc m_X8_layLevels (d + 1) rc rs 10 [some (.ref r0), some (.ref r1), none, some (.int (l3 ||| l4)), some (.int (v13 &&& ((l3 ||| l4) ^^^ (-1)))), some (.int (l5 + 1))] [] g13 P) : SW sc m_X8_layLevels (d + 1) rc rs 22 [some (.ref r0), some (.ref r1), none, some (.int l3), some (.int l4), some (.int l5)] [] h P := by
  refine sw_aload_n dX8_layLevels_22 rfl ?_
  refine sw_getf dX8_layLevels_23 lf_X8_9 hc2 hv2 ?_
  refine sw_iload dX8_layLevels_26 rfl ?_
  refine sw_iload dX8_layLevels_28 rfl ?_
  refine sw_iast dX8_layLevels_30 hc5 ho5 hl5 ?_
  refine sw_iinc (v := l5 + 1) dX8_layLevels_31 rfl rfl (by decide) rfl ?_
  show SW sc m_X8_layLevels _ _ _ 34 [some (.ref r0), some (.ref r1), none, some (.int l3), some (.int l4), some (.int (l5 + 1))] [] ((h).set a2 (100, vs5.set l5.toNatClampNeg (.int l4))) P
  refine sw_iload_n dX8_layLevels_34 rfl ?_
  refine sw_iload dX8_layLevels_35 rfl ?_
  refine sw_ior dX8_layLevels_37 ?_
  refine sw_istore_n dX8_layLevels_38 (by decide) rfl ?_
  show SW sc m_X8_layLevels _ _ _ 39 [some (.ref r0), some (.ref r1), none, some (.int (l3 ||| l4)), some (.int l4), some (.int (l5 + 1))] [] ((h).set a2 (100, vs5.set l5.toNatClampNeg (.int l4))) P
  refine sw_aload_n dX8_layLevels_39 rfl ?_
  refine sw_iload dX8_layLevels_40 rfl ?_
  refine sw_cV dX8_layLevels_42 lv_X8_60 hm13 hr13 rfl (by decide) rfl rfl rfl (Nat.le_of_ble_eq_true rfl) (fun _ _ => rfl) rfl ?_
  show SW sc m_X8_layLevels _ _ _ 45 [some (.ref r0), some (.ref r1), none, some (.int (l3 ||| l4)), some (.int l4), some (.int (l5 + 1))] [.int v13] g13 P
  refine sw_iload_n dX8_layLevels_45 rfl ?_
  refine sw_iconst (v := (-1)) dX8_layLevels_46 (by decide) ?_
  refine sw_ixor dX8_layLevels_47 ?_
  refine sw_iand dX8_layLevels_48 ?_
  refine sw_istore dX8_layLevels_49 (by decide) rfl ?_
  show SW sc m_X8_layLevels _ _ _ 51 [some (.ref r0), some (.ref r1), none, some (.int (l3 ||| l4)), some (.int (v13 &&& ((l3 ||| l4) ^^^ (-1)))), some (.int (l5 + 1))] [] g13 P
  exact sw_goto dX8_layLevels_51 (by decide) (k)
theorem b_X8_layLevels_54 {l5 : Int32} (hP : P (.inl (some (.int l5))) h) : SW sc m_X8_layLevels d rc rs 54 [none, none, none, none, none, some (.int l5)] [] h P := by
  refine sw_iload dX8_layLevels_54 rfl ?_
  exact sw_ret (v := (some (.int l5))) dX8_layLevels_56 rt_i hP
theorem b_X8_assemble_0 {r0 : Nat} {l1 : Int32} {l2 : Int32} (k : SW sc m_X8_assemble d rc rs 23 [some (.ref r0), some (.int l1), none, some (.int 0), some (.int 1), some (.int 1), some (.int (-1)), some (.int 0), some (.int 0), some (.int l2), some (.int 0), none] [] h P) : SW sc m_X8_assemble d rc rs 0 [some (.ref r0), some (.int l1), some (.int l2), none, none, none, none, none, none, none, none, none] [] h P := by
  refine sw_iconst (v := 0) dX8_assemble_0 (by decide) ?_
  refine sw_istore_n dX8_assemble_1 (by decide) rfl ?_
  show SW sc m_X8_assemble _ _ _ 2 [some (.ref r0), some (.int l1), some (.int l2), some (.int 0), none, none, none, none, none, none, none, none] [] h P
  refine sw_iconst (v := 1) dX8_assemble_2 (by decide) ?_
  refine sw_istore dX8_assemble_3 (by decide) rfl ?_
  show SW sc m_X8_assemble _ _ _ 5 [some (.ref r0), some (.int l1), some (.int l2), some (.int 0), some (.int 1), none, none, none, none, none, none, none] [] h P
  refine sw_iconst (v := 1) dX8_assemble_5 (by decide) ?_
  refine sw_istore dX8_assemble_6 (by decide) rfl ?_
  show SW sc m_X8_assemble _ _ _ 8 [some (.ref r0), some (.int l1), some (.int l2), some (.int 0), some (.int 1), some (.int 1), none, none, none, none, none, none] [] h P
  refine sw_iconst (v := (-1)) dX8_assemble_8 (by decide) ?_
  refine sw_istore dX8_assemble_9 (by decide) rfl ?_
  show SW sc m_X8_assemble _ _ _ 11 [some (.ref r0), some (.int l1), some (.int l2), some (.int 0), some (.int 1), some (.int 1), some (.int (-1)), none, none, none, none, none] [] h P
  refine sw_iconst (v := 0) dX8_assemble_11 (by decide) ?_
  refine sw_istore dX8_assemble_12 (by decide) rfl ?_
  show SW sc m_X8_assemble _ _ _ 14 [some (.ref r0), some (.int l1), some (.int l2), some (.int 0), some (.int 1), some (.int 1), some (.int (-1)), some (.int 0), none, none, none, none] [] h P
  refine sw_iconst (v := 0) dX8_assemble_14 (by decide) ?_
  refine sw_istore dX8_assemble_15 (by decide) rfl ?_
  show SW sc m_X8_assemble _ _ _ 17 [some (.ref r0), some (.int l1), some (.int l2), some (.int 0), some (.int 1), some (.int 1), some (.int (-1)), some (.int 0), some (.int 0), none, none, none] [] h P
  refine sw_iload_n dX8_assemble_17 rfl ?_
  refine sw_istore dX8_assemble_18 (by decide) rfl ?_
  show SW sc m_X8_assemble _ _ _ 20 [some (.ref r0), some (.int l1), some (.int l2), some (.int 0), some (.int 1), some (.int 1), some (.int (-1)), some (.int 0), some (.int 0), some (.int l2), none, none] [] h P
  refine sw_iconst (v := 0) dX8_assemble_20 (by decide) ?_
  refine sw_istore dX8_assemble_21 (by decide) rfl ?_
  show SW sc m_X8_assemble _ _ _ 23 [some (.ref r0), some (.int l1), some (.int l2), some (.int 0), some (.int 1), some (.int 1), some (.int (-1)), some (.int 0), some (.int 0), some (.int l2), some (.int 0), none] [] h P
  exact (sw_fg [false, false, true, false, false, false, false, false, false, false, false, false] rfl (k))
theorem b_X8_assemble_23 {r0 : Nat} {l1 : Int32} {l3 : Int32} {l4 : Int32} {l5 : Int32} {l6 : Int32} {l7 : Int32} {l8 : Int32} {l9 : Int32} {l10 : Int32} (kt : 10 ≤ l10 → SW sc m_X8_assemble d rc rs 143 [some (.ref r0), some (.int l1), none, some (.int l3), some (.int l4), some (.int l5), none, none, some (.int l8), none, none, none] [] h P) (kf : ¬ (10 ≤ l10) → SW sc m_X8_assemble d rc rs 30 [some (.ref r0), some (.int l1), none, some (.int l3), some (.int l4), some (.int l5), some (.int l6), some (.int l7), some (.int l8), some (.int l9), some (.int l10), none] [] h P) : SW sc m_X8_assemble d rc rs 23 [some (.ref r0), some (.int l1), none, some (.int l3), some (.int l4), some (.int l5), some (.int l6), some (.int l7), some (.int l8), some (.int l9), some (.int l10), none] [] h P := by
  refine sw_iload dX8_assemble_23 rfl ?_
  refine sw_bipush (v := 10) dX8_assemble_25 (by decide) ?_
  exact sw_icmp_ge dX8_assemble_27 (by decide) (fun q => (sw_fg [false, false, false, false, false, false, true, true, false, true, true, false] rfl (kt q))) (fun q => (kf q))
theorem b_X8_assemble_30 {r0 : Nat} {l1 : Int32} {l3 : Int32} {l4 : Int32} {l5 : Int32} {l6 : Int32} {l7 : Int32} {l8 : Int32} {l9 : Int32} {l10 : Int32} (kt : l9 = 0 → SW sc m_X8_assemble d rc rs 143 [some (.ref r0), some (.int l1), none, some (.int l3), some (.int l4), some (.int l5), none, none, some (.int l8), none, none, none] [] h P) (kf : ¬ (l9 = 0) → SW sc m_X8_assemble d rc rs 35 [some (.ref r0), some (.int l1), none, some (.int l3), some (.int l4), some (.int l5), some (.int l6), some (.int l7), some (.int l8), some (.int l9), some (.int l10), none] [] h P) : SW sc m_X8_assemble d rc rs 30 [some (.ref r0), some (.int l1), none, some (.int l3), some (.int l4), some (.int l5), some (.int l6), some (.int l7), some (.int l8), some (.int l9), some (.int l10), none] [] h P := by
  refine sw_iload dX8_assemble_30 rfl ?_
  exact sw_if_eq dX8_assemble_32 (by decide) (fun q => (sw_fg [false, false, false, false, false, false, true, true, false, true, true, false] rfl (kt q))) (fun q => (kf q))
theorem b_X8_assemble_35 {r0 : Nat} {l1 : Int32} {l3 : Int32} {l4 : Int32} {l5 : Int32} {l6 : Int32} {l7 : Int32} {l8 : Int32} {l9 : Int32} {l10 : Int32} {v3 : Int32} {g3 : ab_H} {fs3 : List Value} {fs6 : List Value} {a6 : Nat} {vs8 : List Value} {x8 : Int32} (hr3 : (h)[r0]? = some (8, fs3)) (hm3 : MSE m_X8_leastWord d [.ref r0, .int l9] h (some (.int v3)) g3) (hc6 : (g3)[r0]? = some (8, fs6)) (hv6 : fs6[1]? = some (.ref a6)) (hc8 : (g3)[a6]? = some (100, vs8)) (ho8 : ¬ v3 < 0) (hi8 : vs8[v3.toNatClampNeg]? = some (.int x8)) (kt : ¬ x8 = l6 → SW sc m_X8_assemble (d + 1) rc rs 62 [some (.ref r0), some (.int l1), none, some (.int l3), some (.int l4), some (.int l5), none, none, some (.int l8), some (.int l9), some (.int l10), some (.int v3)] [] g3 P) (kf : x8 = l6 → SW sc m_X8_assemble (d + 1) rc rs 55 [some (.ref r0), some (.int l1), none, some (.int l3), some (.int l4), some (.int l5), none, some (.int l7), some (.int l8), some (.int l9), some (.int l10), some (.int v3)] [] g3 P) : SW sc m_X8_assemble (d + 1) rc rs 35 [some (.ref r0), some (.int l1), none, some (.int l3), some (.int l4), some (.int l5), some (.int l6), some (.int l7), some (.int l8), some (.int l9), some (.int l10), none] [] h P := by
  refine sw_aload_n dX8_assemble_35 rfl ?_
  refine sw_iload dX8_assemble_36 rfl ?_
  refine sw_cV dX8_assemble_38 lv_X8_63 hm3 hr3 rfl (by decide) rfl rfl rfl (Nat.le_of_ble_eq_true rfl) (fun _ _ => rfl) rfl ?_
  show SW sc m_X8_assemble _ _ _ 41 [some (.ref r0), some (.int l1), none, some (.int l3), some (.int l4), some (.int l5), some (.int l6), some (.int l7), some (.int l8), some (.int l9), some (.int l10), none] [.int v3] g3 P
  refine sw_istore dX8_assemble_41 (by decide) rfl ?_
  show SW sc m_X8_assemble _ _ _ 43 [some (.ref r0), some (.int l1), none, some (.int l3), some (.int l4), some (.int l5), some (.int l6), some (.int l7), some (.int l8), some (.int l9), some (.int l10), some (.int v3)] [] g3 P
  refine sw_aload_n dX8_assemble_43 rfl ?_
  refine sw_getf dX8_assemble_44 lf_X8_15 hc6 hv6 ?_
  refine sw_iload dX8_assemble_47 rfl ?_
  refine sw_iald dX8_assemble_49 hc8 ho8 hi8 ?_
  refine sw_iload dX8_assemble_50 rfl ?_
  exact sw_icmp_ne dX8_assemble_52 (by decide) (fun q => (sw_fg [false, false, false, false, false, false, true, true, false, false, false, false] rfl (kt q))) (fun q => (sw_fg [false, false, false, false, false, false, true, false, false, false, false, false] rfl (kf q)))
theorem b_X8_assemble_55 {r0 : Nat} {l1 : Int32} {l3 : Int32} {l4 : Int32} {l5 : Int32} {l7 : Int32} {l8 : Int32} {l9 : Int32} {l10 : Int32} {l11 : Int32} (k : SW sc m_X8_assemble d rc rs 63 [some (.ref r0), some (.int l1), none, some (.int l3), some (.int l4), some (.int l5), none, none, some (.int l8), some (.int l9), some (.int l10), some (.int l11)] [.int (l7 + 1)] h P) : SW sc m_X8_assemble d rc rs 55 [some (.ref r0), some (.int l1), none, some (.int l3), some (.int l4), some (.int l5), none, some (.int l7), some (.int l8), some (.int l9), some (.int l10), some (.int l11)] [] h P := by
  refine sw_iload dX8_assemble_55 rfl ?_
  refine sw_iconst (v := 1) dX8_assemble_57 (by decide) ?_
  refine sw_iadd dX8_assemble_58 ?_
  exact sw_goto dX8_assemble_59 (by decide) (sw_fg [false, false, false, false, false, false, false, true, false, false, false, false] rfl (k))
theorem b_X8_assemble_62 {r0 : Nat} {l1 : Int32} {l3 : Int32} {l4 : Int32} {l5 : Int32} {l8 : Int32} {l9 : Int32} {l10 : Int32} {l11 : Int32} (k : SW sc m_X8_assemble d rc rs 63 [some (.ref r0), some (.int l1), none, some (.int l3), some (.int l4), some (.int l5), none, none, some (.int l8), some (.int l9), some (.int l10), some (.int l11)] [.int 1] h P) : SW sc m_X8_assemble d rc rs 62 [some (.ref r0), some (.int l1), none, some (.int l3), some (.int l4), some (.int l5), none, none, some (.int l8), some (.int l9), some (.int l10), some (.int l11)] [] h P := by
  refine sw_iconst (v := 1) dX8_assemble_62 (by decide) ?_
  exact (k)
theorem b_X8_assemble_63 {r0 : Nat} {l1 : Int32} {l3 : Int32} {l4 : Int32} {l5 : Int32} {l8 : Int32} {l9 : Int32} {l10 : Int32} {l11 : Int32} {s0 : Int32} {fs3 : List Value} {a3 : Nat} {vs5 : List Value} {x5 : Int32} {fs10 : List Value} {a10 : Nat} {vs12 : List Value} {x12 : Int32} {fs18 : List Value} {a18 : Nat} {vs20 : List Value} {x20 : Int32} {fs27 : List Value} {a27 : Nat} {vs29 : List Value} {x29 : Int32} {fs34 : List Value} {a34 : Nat} {vs36 : List Value} {x36 : Int32} {v37 : Int32} {g37 : ab_H} {v41 : Int32} {g41 : ab_H} (hc3 : (h)[r0]? = some (8, fs3)) (hv3 : fs3[1]? = some (.ref a3)) (hc5 : (h)[a3]? = some (100, vs5)) (ho5 : ¬ l11 < 0) (hi5 : vs5[l11.toNatClampNeg]? = some (.int x5)) (hc10 : (h)[r0]? = some (8, fs10)) (hv10 : fs10[4]? = some (.ref a10)) (hc12 : (h)[a10]? = some (100, vs12)) (ho12 : ¬ l11 < 0) (hi12 : vs12[l11.toNatClampNeg]? = some (.int x12)) (hc18 : (h)[r0]? = some (8, fs18)) (hv18 : fs18[1]? = some (.ref a18)) (hc20 : (h)[a18]? = some (100, vs20)) (ho20 : ¬ l11 < 0) (hi20 : vs20[l11.toNatClampNeg]? = some (.int x20)) (hc27 : (h)[r0]? = some (8, fs27)) (hv27 : fs27[2]? = some (.ref a27)) (hc29 : (h)[a27]? = some (100, vs29)) (ho29 : ¬ l11 < 0) (hi29 : vs29[l11.toNatClampNeg]? = some (.int x29)) (hc34 : (h)[r0]? = some (8, fs34)) (hv34 : fs34[2]? = some (.ref a34)) (hc36 : (h)[a34]? = some (100, vs36)) (ho36 : ¬ l11 < 0) (hi36 : vs36[l11.toNatClampNeg]? = some (.int x36)) (hm37 : MSE m_J9_max_7cf53 d [.int l8, .int x36] h (some (.int v37)) g37) (hm41 : MSE m_X9_without d [.int l9, .int l11] g37 (some (.int v41)) g41) (k : SW sc m_X8_assemble (d + 1) rc rs 23 [some (.ref r0), some (.int l1), none, some (.int (l3 ||| (x20 >>> (l4 &&& 31)))), some (.int (l4 + x29)), some (.int (l5 * (s0 * x12))), some (.int x5), some (.int s0), some (.int v37), some (.int v41), some (.int (l10 + 1)), none] [] g41 P) : SW sc m_X8_assemble (d + 1) rc rs 63 [some (.ref r0), some (.int l1), none, some (.int l3), some (.int l4), some (.int l5), none, none, some (.int l8), some (.int l9), some (.int l10), some (.int l11)] [.int s0] h P := by
  refine sw_istore dX8_assemble_63 (by decide) rfl ?_
  show SW sc m_X8_assemble _ _ _ 65 [some (.ref r0), some (.int l1), none, some (.int l3), some (.int l4), some (.int l5), none, some (.int s0), some (.int l8), some (.int l9), some (.int l10), some (.int l11)] [] h P
  refine sw_aload_n dX8_assemble_65 rfl ?_
  refine sw_getf dX8_assemble_66 lf_X8_15 hc3 hv3 ?_
  refine sw_iload dX8_assemble_69 rfl ?_
  refine sw_iald dX8_assemble_71 hc5 ho5 hi5 ?_
  refine sw_istore dX8_assemble_72 (by decide) rfl ?_
  show SW sc m_X8_assemble _ _ _ 74 [some (.ref r0), some (.int l1), none, some (.int l3), some (.int l4), some (.int l5), some (.int x5), some (.int s0), some (.int l8), some (.int l9), some (.int l10), some (.int l11)] [] h P
  refine sw_iload dX8_assemble_74 rfl ?_
  refine sw_iload dX8_assemble_76 rfl ?_
  refine sw_aload_n dX8_assemble_78 rfl ?_
  refine sw_getf dX8_assemble_79 lf_X8_24 hc10 hv10 ?_
  refine sw_iload dX8_assemble_82 rfl ?_
  refine sw_iald dX8_assemble_84 hc12 ho12 hi12 ?_
  refine sw_imul dX8_assemble_85 ?_
  refine sw_imul dX8_assemble_86 ?_
  refine sw_istore dX8_assemble_87 (by decide) rfl ?_
  show SW sc m_X8_assemble _ _ _ 89 [some (.ref r0), some (.int l1), none, some (.int l3), some (.int l4), some (.int (l5 * (s0 * x12))), some (.int x5), some (.int s0), some (.int l8), some (.int l9), some (.int l10), some (.int l11)] [] h P
  refine sw_iload_n dX8_assemble_89 rfl ?_
  refine sw_aload_n dX8_assemble_90 rfl ?_
  refine sw_getf dX8_assemble_91 lf_X8_15 hc18 hv18 ?_
  refine sw_iload dX8_assemble_94 rfl ?_
  refine sw_iald dX8_assemble_96 hc20 ho20 hi20 ?_
  refine sw_iload dX8_assemble_97 rfl ?_
  refine sw_ishr dX8_assemble_99 ?_
  refine sw_ior dX8_assemble_100 ?_
  refine sw_istore_n dX8_assemble_101 (by decide) rfl ?_
  show SW sc m_X8_assemble _ _ _ 102 [some (.ref r0), some (.int l1), none, some (.int (l3 ||| (x20 >>> (l4 &&& 31)))), some (.int l4), some (.int (l5 * (s0 * x12))), some (.int x5), some (.int s0), some (.int l8), some (.int l9), some (.int l10), some (.int l11)] [] h P
  refine sw_iload dX8_assemble_102 rfl ?_
  refine sw_aload_n dX8_assemble_104 rfl ?_
  refine sw_getf dX8_assemble_105 lf_X8_18 hc27 hv27 ?_
  refine sw_iload dX8_assemble_108 rfl ?_
  refine sw_iald dX8_assemble_110 hc29 ho29 hi29 ?_
  refine sw_iadd dX8_assemble_111 ?_
  refine sw_istore dX8_assemble_112 (by decide) rfl ?_
  show SW sc m_X8_assemble _ _ _ 114 [some (.ref r0), some (.int l1), none, some (.int (l3 ||| (x20 >>> (l4 &&& 31)))), some (.int (l4 + x29)), some (.int (l5 * (s0 * x12))), some (.int x5), some (.int s0), some (.int l8), some (.int l9), some (.int l10), some (.int l11)] [] h P
  refine sw_iload dX8_assemble_114 rfl ?_
  refine sw_aload_n dX8_assemble_116 rfl ?_
  refine sw_getf dX8_assemble_117 lf_X8_18 hc34 hv34 ?_
  refine sw_iload dX8_assemble_120 rfl ?_
  refine sw_iald dX8_assemble_122 hc36 ho36 hi36 ?_
  refine sw_cS dX8_assemble_123 ls_X8_66 hm37 rfl rfl (Nat.le_of_ble_eq_true rfl) (fun _ _ => rfl) rfl ?_
  show SW sc m_X8_assemble _ _ _ 126 [some (.ref r0), some (.int l1), none, some (.int (l3 ||| (x20 >>> (l4 &&& 31)))), some (.int (l4 + x29)), some (.int (l5 * (s0 * x12))), some (.int x5), some (.int s0), some (.int l8), some (.int l9), some (.int l10), some (.int l11)] [.int v37] g37 P
  refine sw_istore dX8_assemble_126 (by decide) rfl ?_
  show SW sc m_X8_assemble _ _ _ 128 [some (.ref r0), some (.int l1), none, some (.int (l3 ||| (x20 >>> (l4 &&& 31)))), some (.int (l4 + x29)), some (.int (l5 * (s0 * x12))), some (.int x5), some (.int s0), some (.int v37), some (.int l9), some (.int l10), some (.int l11)] [] g37 P
  refine sw_iload dX8_assemble_128 rfl ?_
  refine sw_iload dX8_assemble_130 rfl ?_
  refine sw_cS dX8_assemble_132 ls_X8_72 hm41 rfl rfl (Nat.le_of_ble_eq_true rfl) (fun _ _ => rfl) rfl ?_
  show SW sc m_X8_assemble _ _ _ 135 [some (.ref r0), some (.int l1), none, some (.int (l3 ||| (x20 >>> (l4 &&& 31)))), some (.int (l4 + x29)), some (.int (l5 * (s0 * x12))), some (.int x5), some (.int s0), some (.int v37), some (.int l9), some (.int l10), some (.int l11)] [.int v41] g41 P
  refine sw_istore dX8_assemble_135 (by decide) rfl ?_
  show SW sc m_X8_assemble _ _ _ 137 [some (.ref r0), some (.int l1), none, some (.int (l3 ||| (x20 >>> (l4 &&& 31)))), some (.int (l4 + x29)), some (.int (l5 * (s0 * x12))), some (.int x5), some (.int s0), some (.int v37), some (.int v41), some (.int l10), some (.int l11)] [] g41 P
  refine sw_iinc (v := l10 + 1) dX8_assemble_137 rfl rfl (by decide) rfl ?_
  show SW sc m_X8_assemble _ _ _ 140 [some (.ref r0), some (.int l1), none, some (.int (l3 ||| (x20 >>> (l4 &&& 31)))), some (.int (l4 + x29)), some (.int (l5 * (s0 * x12))), some (.int x5), some (.int s0), some (.int v37), some (.int v41), some (.int (l10 + 1)), some (.int l11)] [] g41 P
  exact sw_goto dX8_assemble_140 (by decide) (sw_fg [false, false, false, false, false, false, false, false, false, false, false, true] rfl (k))
theorem b_X8_assemble_143 {r0 : Nat} {l1 : Int32} {l3 : Int32} {l4 : Int32} {l5 : Int32} {l8 : Int32} {fs2 : List Value} {a2 : Nat} {vs11 : List Value} {fs13 : List Value} {a13 : Nat} {vs18 : List Value} {fs20 : List Value} {a20 : Nat} {vs23 : List Value} {fs25 : List Value} {a25 : Nat} {vs28 : List Value} (hc2 : (h)[r0]? = some (8, fs2)) (hv2 : fs2[1]? = some (.ref a2)) (hc11 : (h)[a2]? = some (100, vs11)) (ho11 : ¬ l1 < 0) (hl11 : l1.toNatClampNeg < vs11.length) (hc13 : ((h).set a2 (100, vs11.set l1.toNatClampNeg (.int (l3 ||| (1 <<< ((19 - l4) &&& 31))))))[r0]? = some (8, fs13)) (hv13 : fs13[2]? = some (.ref a13)) (hc18 : ((h).set a2 (100, vs11.set l1.toNatClampNeg (.int (l3 ||| (1 <<< ((19 - l4) &&& 31))))))[a13]? = some (100, vs18)) (ho18 : ¬ l1 < 0) (hl18 : l1.toNatClampNeg < vs18.length) (hc20 : (((h).set a2 (100, vs11.set l1.toNatClampNeg (.int (l3 ||| (1 <<< ((19 - l4) &&& 31)))))).set a13 (100, vs18.set l1.toNatClampNeg (.int (l4 + 1))))[r0]? = some (8, fs20)) (hv20 : fs20[3]? = some (.ref a20)) (hc23 : (((h).set a2 (100, vs11.set l1.toNatClampNeg (.int (l3 ||| (1 <<< ((19 - l4) &&& 31)))))).set a13 (100, vs18.set l1.toNatClampNeg (.int (l4 + 1))))[a20]? = some (100, vs23)) (ho23 : ¬ l1 < 0) (hl23 : l1.toNatClampNeg < vs23.length) (hc25 : ((((h).set a2 (100, vs11.set l1.toNatClampNeg (.int (l3 ||| (1 <<< ((19 - l4) &&& 31)))))).set a13 (100, vs18.set l1.toNatClampNeg (.int (l4 + 1)))).set a20 (100, vs23.set l1.toNatClampNeg (.int l8)))[r0]? = some (8, fs25)) (hv25 : fs25[4]? = some (.ref a25)) (hc28 : ((((h).set a2 (100, vs11.set l1.toNatClampNeg (.int (l3 ||| (1 <<< ((19 - l4) &&& 31)))))).set a13 (100, vs18.set l1.toNatClampNeg (.int (l4 + 1)))).set a20 (100, vs23.set l1.toNatClampNeg (.int l8)))[a25]? = some (100, vs28)) (ho28 : ¬ l1 < 0) (hl28 : l1.toNatClampNeg < vs28.length) (hP : P (.inl none) (((((h).set a2 (100, vs11.set l1.toNatClampNeg (.int (l3 ||| (1 <<< ((19 - l4) &&& 31)))))).set a13 (100, vs18.set l1.toNatClampNeg (.int (l4 + 1)))).set a20 (100, vs23.set l1.toNatClampNeg (.int l8))).set a25 (100, vs28.set l1.toNatClampNeg (.int l5)))) : SW sc m_X8_assemble d rc rs 143 [some (.ref r0), some (.int l1), none, some (.int l3), some (.int l4), some (.int l5), none, none, some (.int l8), none, none, none] [] h P := by
  refine sw_aload_n dX8_assemble_143 rfl ?_
  refine sw_getf dX8_assemble_144 lf_X8_15 hc2 hv2 ?_
  refine sw_iload_n dX8_assemble_147 rfl ?_
  refine sw_iload_n dX8_assemble_148 rfl ?_
  refine sw_iconst (v := 1) dX8_assemble_149 (by decide) ?_
  refine sw_bipush (v := 19) dX8_assemble_150 (by decide) ?_
  refine sw_iload dX8_assemble_152 rfl ?_
  refine sw_isub dX8_assemble_154 ?_
  refine sw_ishl dX8_assemble_155 ?_
  refine sw_ior dX8_assemble_156 ?_
  refine sw_iast dX8_assemble_157 hc11 ho11 hl11 ?_
  refine sw_aload_n dX8_assemble_158 rfl ?_
  refine sw_getf dX8_assemble_159 lf_X8_18 hc13 hv13 ?_
  refine sw_iload_n dX8_assemble_162 rfl ?_
  refine sw_iload dX8_assemble_163 rfl ?_
  refine sw_iconst (v := 1) dX8_assemble_165 (by decide) ?_
  refine sw_iadd dX8_assemble_166 ?_
  refine sw_iast dX8_assemble_167 hc18 ho18 hl18 ?_
  refine sw_aload_n dX8_assemble_168 rfl ?_
  refine sw_getf dX8_assemble_169 lf_X8_21 hc20 hv20 ?_
  refine sw_iload_n dX8_assemble_172 rfl ?_
  refine sw_iload dX8_assemble_173 rfl ?_
  refine sw_iast dX8_assemble_175 hc23 ho23 hl23 ?_
  refine sw_aload_n dX8_assemble_176 rfl ?_
  refine sw_getf dX8_assemble_177 lf_X8_24 hc25 hv25 ?_
  refine sw_iload_n dX8_assemble_180 rfl ?_
  refine sw_iload dX8_assemble_181 rfl ?_
  refine sw_iast dX8_assemble_183 hc28 ho28 hl28 ?_
  exact sw_ret (v := none) dX8_assemble_184 rt_v hP
theorem b_X8_leastWord_0 {r0 : Nat} {l1 : Int32} (k : SW sc m_X8_leastWord d rc rs 7 [some (.ref r0), some (.int l1), some (.int 0), some (.int 0), some (.int 0)] [] h P) : SW sc m_X8_leastWord d rc rs 0 [some (.ref r0), some (.int l1), none, none, none] [] h P := by
  refine sw_iconst (v := 0) dX8_leastWord_0 (by decide) ?_
  refine sw_istore_n dX8_leastWord_1 (by decide) rfl ?_
  show SW sc m_X8_leastWord _ _ _ 2 [some (.ref r0), some (.int l1), some (.int 0), none, none] [] h P
  refine sw_iconst (v := 0) dX8_leastWord_2 (by decide) ?_
  refine sw_istore_n dX8_leastWord_3 (by decide) rfl ?_
  show SW sc m_X8_leastWord _ _ _ 4 [some (.ref r0), some (.int l1), some (.int 0), some (.int 0), none] [] h P
  refine sw_iconst (v := 0) dX8_leastWord_4 (by decide) ?_
  refine sw_istore dX8_leastWord_5 (by decide) rfl ?_
  show SW sc m_X8_leastWord _ _ _ 7 [some (.ref r0), some (.int l1), some (.int 0), some (.int 0), some (.int 0)] [] h P
  exact (k)
theorem b_X8_leastWord_7 {r0 : Nat} {l1 : Int32} {l2 : Int32} {l3 : Int32} {l4 : Int32} (kt : 10 ≤ l4 → SW sc m_X8_leastWord d rc rs 54 [none, none, some (.int l2), none, none] [] h P) (kf : ¬ (10 ≤ l4) → SW sc m_X8_leastWord d rc rs 14 [some (.ref r0), some (.int l1), some (.int l2), some (.int l3), some (.int l4)] [] h P) : SW sc m_X8_leastWord d rc rs 7 [some (.ref r0), some (.int l1), some (.int l2), some (.int l3), some (.int l4)] [] h P := by
  refine sw_iload dX8_leastWord_7 rfl ?_
  refine sw_bipush (v := 10) dX8_leastWord_9 (by decide) ?_
  exact sw_icmp_ge dX8_leastWord_11 (by decide) (fun q => (sw_fg [true, true, false, true, true] rfl (kt q))) (fun q => (kf q))
theorem b_X8_leastWord_14 {r0 : Nat} {l1 : Int32} {l2 : Int32} {l3 : Int32} {l4 : Int32} {v3 : Int32} {g3 : ab_H} (hm3 : MSE m_X9_holds d [.int l1, .int l4] h (some (.int v3)) g3) (kt : v3 = 0 → SW sc m_X8_leastWord (d + 1) rc rs 48 [some (.ref r0), some (.int l1), some (.int l2), some (.int l3), some (.int l4)] [] g3 P) (kf : ¬ (v3 = 0) → SW sc m_X8_leastWord (d + 1) rc rs 23 [some (.ref r0), some (.int l1), some (.int l2), some (.int l3), some (.int l4)] [] g3 P) : SW sc m_X8_leastWord (d + 1) rc rs 14 [some (.ref r0), some (.int l1), some (.int l2), some (.int l3), some (.int l4)] [] h P := by
  refine sw_iload_n dX8_leastWord_14 rfl ?_
  refine sw_iload dX8_leastWord_15 rfl ?_
  refine sw_cS dX8_leastWord_17 ls_X8_34 hm3 rfl rfl (Nat.le_of_ble_eq_true rfl) (fun _ _ => rfl) rfl ?_
  show SW sc m_X8_leastWord _ _ _ 20 [some (.ref r0), some (.int l1), some (.int l2), some (.int l3), some (.int l4)] [.int v3] g3 P
  exact sw_if_eq dX8_leastWord_20 (by decide) (fun q => (kt q)) (fun q => (kf q))
theorem b_X8_leastWord_23 {r0 : Nat} {l1 : Int32} {l2 : Int32} {l3 : Int32} {l4 : Int32} (kt : l3 = 0 → SW sc m_X8_leastWord d rc rs 43 [some (.ref r0), some (.int l1), none, none, some (.int l4)] [] h P) (kf : ¬ (l3 = 0) → SW sc m_X8_leastWord d rc rs 27 [some (.ref r0), some (.int l1), some (.int l2), some (.int l3), some (.int l4)] [] h P) : SW sc m_X8_leastWord d rc rs 23 [some (.ref r0), some (.int l1), some (.int l2), some (.int l3), some (.int l4)] [] h P := by
  refine sw_iload_n dX8_leastWord_23 rfl ?_
  exact sw_if_eq dX8_leastWord_24 (by decide) (fun q => (sw_fg [false, false, true, true, false] rfl (kt q))) (fun q => (kf q))
theorem b_X8_leastWord_27 {r0 : Nat} {l1 : Int32} {l2 : Int32} {l3 : Int32} {l4 : Int32} {fs2 : List Value} {a2 : Nat} {vs4 : List Value} {x4 : Int32} {fs6 : List Value} {a6 : Nat} {vs8 : List Value} {x8 : Int32} (hc2 : (h)[r0]? = some (8, fs2)) (hv2 : fs2[1]? = some (.ref a2)) (hc4 : (h)[a2]? = some (100, vs4)) (ho4 : ¬ l4 < 0) (hi4 : vs4[l4.toNatClampNeg]? = some (.int x4)) (hc6 : (h)[r0]? = some (8, fs6)) (hv6 : fs6[1]? = some (.ref a6)) (hc8 : (h)[a6]? = some (100, vs8)) (ho8 : ¬ l2 < 0) (hi8 : vs8[l2.toNatClampNeg]? = some (.int x8)) (kt : x8 ≤ x4 → SW sc m_X8_leastWord d rc rs 48 [some (.ref r0), some (.int l1), some (.int l2), some (.int l3), some (.int l4)] [] h P) (kf : ¬ (x8 ≤ x4) → SW sc m_X8_leastWord d rc rs 43 [some (.ref r0), some (.int l1), none, none, some (.int l4)] [] h P) : SW sc m_X8_leastWord d rc rs 27 [some (.ref r0), some (.int l1), some (.int l2), some (.int l3), some (.int l4)] [] h P := by
  refine sw_aload_n dX8_leastWord_27 rfl ?_
  refine sw_getf dX8_leastWord_28 lf_X8_15 hc2 hv2 ?_
  refine sw_iload dX8_leastWord_31 rfl ?_
  refine sw_iald dX8_leastWord_33 hc4 ho4 hi4 ?_
  refine sw_aload_n dX8_leastWord_34 rfl ?_
  refine sw_getf dX8_leastWord_35 lf_X8_15 hc6 hv6 ?_
  refine sw_iload_n dX8_leastWord_38 rfl ?_
  refine sw_iald dX8_leastWord_39 hc8 ho8 hi8 ?_
  exact sw_icmp_ge dX8_leastWord_40 (by decide) (fun q => (kt q)) (fun q => (sw_fg [false, false, true, true, false] rfl (kf q)))
theorem b_X8_leastWord_43 {r0 : Nat} {l1 : Int32} {l4 : Int32} (k : SW sc m_X8_leastWord d rc rs 48 [some (.ref r0), some (.int l1), some (.int l4), some (.int 1), some (.int l4)] [] h P) : SW sc m_X8_leastWord d rc rs 43 [some (.ref r0), some (.int l1), none, none, some (.int l4)] [] h P := by
  refine sw_iload dX8_leastWord_43 rfl ?_
  refine sw_istore_n dX8_leastWord_45 (by decide) rfl ?_
  show SW sc m_X8_leastWord _ _ _ 46 [some (.ref r0), some (.int l1), some (.int l4), none, some (.int l4)] [] h P
  refine sw_iconst (v := 1) dX8_leastWord_46 (by decide) ?_
  refine sw_istore_n dX8_leastWord_47 (by decide) rfl ?_
  show SW sc m_X8_leastWord _ _ _ 48 [some (.ref r0), some (.int l1), some (.int l4), some (.int 1), some (.int l4)] [] h P
  exact (k)
theorem b_X8_leastWord_48 {r0 : Nat} {l1 : Int32} {l2 : Int32} {l3 : Int32} {l4 : Int32} (k : SW sc m_X8_leastWord d rc rs 7 [some (.ref r0), some (.int l1), some (.int l2), some (.int l3), some (.int (l4 + 1))] [] h P) : SW sc m_X8_leastWord d rc rs 48 [some (.ref r0), some (.int l1), some (.int l2), some (.int l3), some (.int l4)] [] h P := by
  refine sw_iinc (v := l4 + 1) dX8_leastWord_48 rfl rfl (by decide) rfl ?_
  show SW sc m_X8_leastWord _ _ _ 51 [some (.ref r0), some (.int l1), some (.int l2), some (.int l3), some (.int (l4 + 1))] [] h P
  exact sw_goto dX8_leastWord_51 (by decide) (k)
theorem b_X8_leastWord_54 {l2 : Int32} (hP : P (.inl (some (.int l2))) h) : SW sc m_X8_leastWord d rc rs 54 [none, none, some (.int l2), none, none] [] h P := by
  refine sw_iload_n dX8_leastWord_54 rfl ?_
  exact sw_ret (v := (some (.int l2))) dX8_leastWord_55 rt_i hP
theorem b_X8_wordOf_0 {r0 : Nat} {r1 : Nat} {l2 : Int32} {v4 : Int32} {g4 : ab_H} {v5 : Int32} {g5 : ab_H} {fs5 : List Value} {v10 : Int32} {g10 : ab_H} {fs10 : List Value} (hm4 : MSE m_X9_lowest d [.int l2] h (some (.int v4)) g4) (hr5 : (g4)[r0]? = some (8, fs5)) (hm5 : MSE m_X8_wordFrom d [.ref r0, .ref r1, .int v4] g4 (some (.int v5)) g5) (hr10 : (g5)[r0]? = some (8, fs10)) (hm10 : MSE m_X8_centroidsSeen d [.ref r0, .ref r1, .int l2] g5 (some (.int v10)) g10) (k : SW sc m_X8_wordOf (d + 1) rc rs 23 [some (.ref r0), some (.ref r1), none, some (.int v10), some (.int (-1)), some (.int 0), none] [] g10 P) : SW sc m_X8_wordOf (d + 1) rc rs 0 [some (.ref r0), some (.ref r1), some (.int l2), none, none, none, none] [] h P := by
  refine sw_aload_n dX8_wordOf_0 rfl ?_
  refine sw_aload_n dX8_wordOf_1 rfl ?_
  refine sw_iload_n dX8_wordOf_2 rfl ?_
  refine sw_cS dX8_wordOf_3 ls_X8_75 hm4 rfl rfl (Nat.le_of_ble_eq_true rfl) (fun _ _ => rfl) rfl ?_
  show SW sc m_X8_wordOf _ _ _ 6 [some (.ref r0), some (.ref r1), some (.int l2), none, none, none, none] [.int v4, .ref r1, .ref r0] g4 P
  refine sw_cV dX8_wordOf_6 lv_X8_78 hm5 hr5 rfl (by decide) rfl rfl rfl (Nat.le_of_ble_eq_true rfl) (fun _ _ => rfl) rfl ?_
  show SW sc m_X8_wordOf _ _ _ 9 [some (.ref r0), some (.ref r1), some (.int l2), none, none, none, none] [.int v5] g5 P
  refine sw_pop dX8_wordOf_9 (fun _ _ => rfl) ?_
  refine sw_aload_n dX8_wordOf_10 rfl ?_
  refine sw_aload_n dX8_wordOf_11 rfl ?_
  refine sw_iload_n dX8_wordOf_12 rfl ?_
  refine sw_cV dX8_wordOf_13 lv_X8_81 hm10 hr10 rfl (by decide) rfl rfl rfl (Nat.le_of_ble_eq_true rfl) (fun _ _ => rfl) rfl ?_
  show SW sc m_X8_wordOf _ _ _ 16 [some (.ref r0), some (.ref r1), some (.int l2), none, none, none, none] [.int v10] g10 P
  refine sw_istore_n dX8_wordOf_16 (by decide) rfl ?_
  show SW sc m_X8_wordOf _ _ _ 17 [some (.ref r0), some (.ref r1), some (.int l2), some (.int v10), none, none, none] [] g10 P
  refine sw_iconst (v := (-1)) dX8_wordOf_17 (by decide) ?_
  refine sw_istore dX8_wordOf_18 (by decide) rfl ?_
  show SW sc m_X8_wordOf _ _ _ 20 [some (.ref r0), some (.ref r1), some (.int l2), some (.int v10), some (.int (-1)), none, none] [] g10 P
  refine sw_iconst (v := 0) dX8_wordOf_20 (by decide) ?_
  refine sw_istore dX8_wordOf_21 (by decide) rfl ?_
  show SW sc m_X8_wordOf _ _ _ 23 [some (.ref r0), some (.ref r1), some (.int l2), some (.int v10), some (.int (-1)), some (.int 0), none] [] g10 P
  exact (sw_fg [false, false, true, false, false, false, false] rfl (k))
theorem b_X8_wordOf_23 {r0 : Nat} {r1 : Nat} {l3 : Int32} {l4 : Int32} {l5 : Int32} {fs3 : List Value} {x3 : Int32} (hc3 : (h)[r1]? = some (3, fs3)) (hv3 : fs3[2]? = some (.int x3)) (kt : x3 ≤ l5 → SW sc m_X8_wordOf d rc rs 76 [none, none, none, none, some (.int l4), none, none] [] h P) (kf : ¬ (x3 ≤ l5) → SW sc m_X8_wordOf d rc rs 32 [some (.ref r0), some (.ref r1), none, some (.int l3), some (.int l4), some (.int l5), none] [] h P) : SW sc m_X8_wordOf d rc rs 23 [some (.ref r0), some (.ref r1), none, some (.int l3), some (.int l4), some (.int l5), none] [] h P := by
  refine sw_iload dX8_wordOf_23 rfl ?_
  refine sw_aload_n dX8_wordOf_25 rfl ?_
  refine sw_getf dX8_wordOf_26 lf_X8_48 hc3 hv3 ?_
  exact sw_icmp_ge dX8_wordOf_29 (by decide) (fun q => (sw_fg [true, true, false, true, false, true, false] rfl (kt q))) (fun q => (kf q))
theorem b_X8_wordOf_32 {r0 : Nat} {r1 : Nat} {l3 : Int32} {l4 : Int32} {l5 : Int32} {v3 : Int32} {g3 : ab_H} (hm3 : MSE m_X9_holds d [.int l3, .int l5] h (some (.int v3)) g3) (kt : v3 = 0 → SW sc m_X8_wordOf (d + 1) rc rs 70 [some (.ref r0), some (.ref r1), none, some (.int l3), some (.int l4), some (.int l5), none] [] g3 P) (kf : ¬ (v3 = 0) → SW sc m_X8_wordOf (d + 1) rc rs 41 [some (.ref r0), some (.ref r1), none, some (.int l3), some (.int l4), some (.int l5), none] [] g3 P) : SW sc m_X8_wordOf (d + 1) rc rs 32 [some (.ref r0), some (.ref r1), none, some (.int l3), some (.int l4), some (.int l5), none] [] h P := by
  refine sw_iload_n dX8_wordOf_32 rfl ?_
  refine sw_iload dX8_wordOf_33 rfl ?_
  refine sw_cS dX8_wordOf_35 ls_X8_34 hm3 rfl rfl (Nat.le_of_ble_eq_true rfl) (fun _ _ => rfl) rfl ?_
  show SW sc m_X8_wordOf _ _ _ 38 [some (.ref r0), some (.ref r1), none, some (.int l3), some (.int l4), some (.int l5), none] [.int v3] g3 P
  exact sw_if_eq dX8_wordOf_38 (by decide) (fun q => (kt q)) (fun q => (kf q))
theorem b_X8_wordOf_41 {r0 : Nat} {r1 : Nat} {l3 : Int32} {l4 : Int32} {l5 : Int32} {v4 : Int32} {g4 : ab_H} {fs4 : List Value} (hr4 : (h)[r0]? = some (8, fs4)) (hm4 : MSE m_X8_wordFrom d [.ref r0, .ref r1, .int l5] h (some (.int v4)) g4) (kt : ¬ l4 = (-1) → SW sc m_X8_wordOf (d + 1) rc rs 61 [some (.ref r0), some (.ref r1), none, some (.int l3), some (.int l4), some (.int l5), some (.int v4)] [] g4 P) (kf : l4 = (-1) → SW sc m_X8_wordOf (d + 1) rc rs 56 [some (.ref r0), some (.ref r1), none, some (.int l3), none, some (.int l5), some (.int v4)] [] g4 P) : SW sc m_X8_wordOf (d + 1) rc rs 41 [some (.ref r0), some (.ref r1), none, some (.int l3), some (.int l4), some (.int l5), none] [] h P := by
  refine sw_aload_n dX8_wordOf_41 rfl ?_
  refine sw_aload_n dX8_wordOf_42 rfl ?_
  refine sw_iload dX8_wordOf_43 rfl ?_
  refine sw_cV dX8_wordOf_45 lv_X8_78 hm4 hr4 rfl (by decide) rfl rfl rfl (Nat.le_of_ble_eq_true rfl) (fun _ _ => rfl) rfl ?_
  show SW sc m_X8_wordOf _ _ _ 48 [some (.ref r0), some (.ref r1), none, some (.int l3), some (.int l4), some (.int l5), none] [.int v4] g4 P
  refine sw_istore dX8_wordOf_48 (by decide) rfl ?_
  show SW sc m_X8_wordOf _ _ _ 50 [some (.ref r0), some (.ref r1), none, some (.int l3), some (.int l4), some (.int l5), some (.int v4)] [] g4 P
  refine sw_iload dX8_wordOf_50 rfl ?_
  refine sw_iconst (v := (-1)) dX8_wordOf_52 (by decide) ?_
  exact sw_icmp_ne dX8_wordOf_53 (by decide) (fun q => (kt q)) (fun q => (sw_fg [false, false, false, false, true, false, false] rfl (kf q)))
theorem b_X8_wordOf_56 {r0 : Nat} {r1 : Nat} {l3 : Int32} {l5 : Int32} {l6 : Int32} (k : SW sc m_X8_wordOf d rc rs 68 [some (.ref r0), some (.ref r1), none, some (.int l3), none, some (.int l5), none] [.int l6] h P) : SW sc m_X8_wordOf d rc rs 56 [some (.ref r0), some (.ref r1), none, some (.int l3), none, some (.int l5), some (.int l6)] [] h P := by
  refine sw_iload dX8_wordOf_56 rfl ?_
  exact sw_goto dX8_wordOf_58 (by decide) (sw_fg [false, false, false, false, false, false, true] rfl (k))
theorem b_X8_wordOf_61 {r0 : Nat} {r1 : Nat} {l3 : Int32} {l4 : Int32} {l5 : Int32} {l6 : Int32} {v3 : Int32} {g3 : ab_H} (hm3 : MSE m_J9_min_7cf53 d [.int l4, .int l6] h (some (.int v3)) g3) (k : SW sc m_X8_wordOf (d + 1) rc rs 68 [some (.ref r0), some (.ref r1), none, some (.int l3), none, some (.int l5), none] [.int v3] g3 P) : SW sc m_X8_wordOf (d + 1) rc rs 61 [some (.ref r0), some (.ref r1), none, some (.int l3), some (.int l4), some (.int l5), some (.int l6)] [] h P := by
  refine sw_iload dX8_wordOf_61 rfl ?_
  refine sw_iload dX8_wordOf_63 rfl ?_
  refine sw_cS dX8_wordOf_65 ls_X8_84 hm3 rfl rfl (Nat.le_of_ble_eq_true rfl) (fun _ _ => rfl) rfl ?_
  show SW sc m_X8_wordOf _ _ _ 68 [some (.ref r0), some (.ref r1), none, some (.int l3), some (.int l4), some (.int l5), some (.int l6)] [.int v3] g3 P
  exact (sw_fg [false, false, false, false, true, false, true] rfl (k))
theorem b_X8_wordOf_68 {r0 : Nat} {r1 : Nat} {l3 : Int32} {l5 : Int32} {s0 : Int32} (k : SW sc m_X8_wordOf d rc rs 70 [some (.ref r0), some (.ref r1), none, some (.int l3), some (.int s0), some (.int l5), none] [] h P) : SW sc m_X8_wordOf d rc rs 68 [some (.ref r0), some (.ref r1), none, some (.int l3), none, some (.int l5), none] [.int s0] h P := by
  refine sw_istore dX8_wordOf_68 (by decide) rfl ?_
  show SW sc m_X8_wordOf _ _ _ 70 [some (.ref r0), some (.ref r1), none, some (.int l3), some (.int s0), some (.int l5), none] [] h P
  exact (k)
theorem b_X8_wordOf_70 {r0 : Nat} {r1 : Nat} {l3 : Int32} {l4 : Int32} {l5 : Int32} (k : SW sc m_X8_wordOf d rc rs 23 [some (.ref r0), some (.ref r1), none, some (.int l3), some (.int l4), some (.int (l5 + 1)), none] [] h P) : SW sc m_X8_wordOf d rc rs 70 [some (.ref r0), some (.ref r1), none, some (.int l3), some (.int l4), some (.int l5), none] [] h P := by
  refine sw_iinc (v := l5 + 1) dX8_wordOf_70 rfl rfl (by decide) rfl ?_
  show SW sc m_X8_wordOf _ _ _ 73 [some (.ref r0), some (.ref r1), none, some (.int l3), some (.int l4), some (.int (l5 + 1)), none] [] h P
  exact sw_goto dX8_wordOf_73 (by decide) (k)
theorem b_X8_wordOf_76 {l4 : Int32} (hP : P (.inl (some (.int l4))) h) : SW sc m_X8_wordOf d rc rs 76 [none, none, none, none, some (.int l4), none, none] [] h P := by
  refine sw_iload dX8_wordOf_76 rfl ?_
  exact sw_ret (v := (some (.int l4))) dX8_wordOf_78 rt_i hP
theorem b_X8_centroidsSeen_0 {r0 : Nat} {r1 : Nat} {l2 : Int32} {v3 : Int32} {g3 : ab_H} (hm3 : MSE m_J6_bitCount_0f7a4 d [.int l2] h (some (.int v3)) g3) (k : SW sc m_X8_centroidsSeen (d + 1) rc rs 13 [some (.ref r0), some (.ref r1), some (.int l2), some (.int (2 * v3)), some (.int 0), some (.int 0)] [] g3 P) : SW sc m_X8_centroidsSeen (d + 1) rc rs 0 [some (.ref r0), some (.ref r1), some (.int l2), none, none, none] [] h P := by
  refine sw_iconst (v := 2) dX8_centroidsSeen_0 (by decide) ?_
  refine sw_iload_n dX8_centroidsSeen_1 rfl ?_
  refine sw_cS dX8_centroidsSeen_2 ls_X8_87 hm3 rfl rfl (Nat.le_of_ble_eq_true rfl) (fun _ _ => rfl) rfl ?_
  show SW sc m_X8_centroidsSeen _ _ _ 5 [some (.ref r0), some (.ref r1), some (.int l2), none, none, none] [.int v3, .int 2] g3 P
  refine sw_imul dX8_centroidsSeen_5 ?_
  refine sw_istore_n dX8_centroidsSeen_6 (by decide) rfl ?_
  show SW sc m_X8_centroidsSeen _ _ _ 7 [some (.ref r0), some (.ref r1), some (.int l2), some (.int (2 * v3)), none, none] [] g3 P
  refine sw_iconst (v := 0) dX8_centroidsSeen_7 (by decide) ?_
  refine sw_istore dX8_centroidsSeen_8 (by decide) rfl ?_
  show SW sc m_X8_centroidsSeen _ _ _ 10 [some (.ref r0), some (.ref r1), some (.int l2), some (.int (2 * v3)), some (.int 0), none] [] g3 P
  refine sw_iconst (v := 0) dX8_centroidsSeen_10 (by decide) ?_
  refine sw_istore dX8_centroidsSeen_11 (by decide) rfl ?_
  show SW sc m_X8_centroidsSeen _ _ _ 13 [some (.ref r0), some (.ref r1), some (.int l2), some (.int (2 * v3)), some (.int 0), some (.int 0)] [] g3 P
  exact (k)
theorem b_X8_centroidsSeen_13 {r0 : Nat} {r1 : Nat} {l2 : Int32} {l3 : Int32} {l4 : Int32} {l5 : Int32} {fs3 : List Value} {x3 : Int32} (hc3 : (h)[r1]? = some (3, fs3)) (hv3 : fs3[2]? = some (.int x3)) (kt : x3 ≤ l5 → SW sc m_X8_centroidsSeen d rc rs 71 [none, none, none, none, some (.int l4), none] [] h P) (kf : ¬ (x3 ≤ l5) → SW sc m_X8_centroidsSeen d rc rs 22 [some (.ref r0), some (.ref r1), some (.int l2), some (.int l3), some (.int l4), some (.int l5)] [] h P) : SW sc m_X8_centroidsSeen d rc rs 13 [some (.ref r0), some (.ref r1), some (.int l2), some (.int l3), some (.int l4), some (.int l5)] [] h P := by
  refine sw_iload dX8_centroidsSeen_13 rfl ?_
  refine sw_aload_n dX8_centroidsSeen_15 rfl ?_
  refine sw_getf dX8_centroidsSeen_16 lf_X8_48 hc3 hv3 ?_
  exact sw_icmp_ge dX8_centroidsSeen_19 (by decide) (fun q => (sw_fg [true, true, true, true, false, true] rfl (kt q))) (fun q => (kf q))
theorem b_X8_centroidsSeen_22 {r0 : Nat} {r1 : Nat} {l2 : Int32} {l3 : Int32} {l4 : Int32} {l5 : Int32} {v3 : Int32} {g3 : ab_H} (hm3 : MSE m_X9_holds d [.int l2, .int l5] h (some (.int v3)) g3) (kt : v3 = 0 → SW sc m_X8_centroidsSeen (d + 1) rc rs 65 [some (.ref r0), some (.ref r1), some (.int l2), some (.int l3), some (.int l4), some (.int l5)] [] g3 P) (kf : ¬ (v3 = 0) → SW sc m_X8_centroidsSeen (d + 1) rc rs 31 [some (.ref r0), some (.ref r1), some (.int l2), some (.int l3), some (.int l4), some (.int l5)] [] g3 P) : SW sc m_X8_centroidsSeen (d + 1) rc rs 22 [some (.ref r0), some (.ref r1), some (.int l2), some (.int l3), some (.int l4), some (.int l5)] [] h P := by
  refine sw_iload_n dX8_centroidsSeen_22 rfl ?_
  refine sw_iload dX8_centroidsSeen_23 rfl ?_
  refine sw_cS dX8_centroidsSeen_25 ls_X8_34 hm3 rfl rfl (Nat.le_of_ble_eq_true rfl) (fun _ _ => rfl) rfl ?_
  show SW sc m_X8_centroidsSeen _ _ _ 28 [some (.ref r0), some (.ref r1), some (.int l2), some (.int l3), some (.int l4), some (.int l5)] [.int v3] g3 P
  exact sw_if_eq dX8_centroidsSeen_28 (by decide) (fun q => (kt q)) (fun q => (kf q))
theorem b_X8_centroidsSeen_31 {r0 : Nat} {r1 : Nat} {l2 : Int32} {l3 : Int32} {l4 : Int32} {l5 : Int32} {fs3 : List Value} {a3 : Nat} {vs5 : List Value} {x5 : Int32} {fs8 : List Value} {a8 : Nat} {vs10 : List Value} {x10 : Int32} {v12 : Int32} {g12 : ab_H} (hc3 : (h)[r0]? = some (8, fs3)) (hv3 : fs3[3]? = some (.ref a3)) (hc5 : (h)[a3]? = some (100, vs5)) (ho5 : ¬ l5 < 0) (hi5 : vs5[l5.toNatClampNeg]? = some (.int x5)) (hc8 : (h)[r0]? = some (8, fs8)) (hv8 : fs8[2]? = some (.ref a8)) (hc10 : (h)[a8]? = some (100, vs10)) (ho10 : ¬ l5 < 0) (hi10 : vs10[l5.toNatClampNeg]? = some (.int x10)) (hm12 : MSE m_J9_max_7cf53 d [.int x5, .int (l3 - x10)] h (some (.int v12)) g12) (kt : l3 < (2 * v12) → SW sc m_X8_centroidsSeen (d + 1) rc rs 65 [some (.ref r0), some (.ref r1), some (.int l2), some (.int l3), some (.int l4), some (.int l5)] [] g12 P) (kf : ¬ (l3 < (2 * v12)) → SW sc m_X8_centroidsSeen (d + 1) rc rs 56 [some (.ref r0), some (.ref r1), some (.int l2), some (.int l3), some (.int l4), some (.int l5)] [] g12 P) : SW sc m_X8_centroidsSeen (d + 1) rc rs 31 [some (.ref r0), some (.ref r1), some (.int l2), some (.int l3), some (.int l4), some (.int l5)] [] h P := by
  refine sw_iconst (v := 2) dX8_centroidsSeen_31 (by decide) ?_
  refine sw_aload_n dX8_centroidsSeen_32 rfl ?_
  refine sw_getf dX8_centroidsSeen_33 lf_X8_21 hc3 hv3 ?_
  refine sw_iload dX8_centroidsSeen_36 rfl ?_
  refine sw_iald dX8_centroidsSeen_38 hc5 ho5 hi5 ?_
  refine sw_iload_n dX8_centroidsSeen_39 rfl ?_
  refine sw_aload_n dX8_centroidsSeen_40 rfl ?_
  refine sw_getf dX8_centroidsSeen_41 lf_X8_18 hc8 hv8 ?_
  refine sw_iload dX8_centroidsSeen_44 rfl ?_
  refine sw_iald dX8_centroidsSeen_46 hc10 ho10 hi10 ?_
  refine sw_isub dX8_centroidsSeen_47 ?_
  refine sw_cS dX8_centroidsSeen_48 ls_X8_66 hm12 rfl rfl (Nat.le_of_ble_eq_true rfl) (fun _ _ => rfl) rfl ?_
  show SW sc m_X8_centroidsSeen _ _ _ 51 [some (.ref r0), some (.ref r1), some (.int l2), some (.int l3), some (.int l4), some (.int l5)] [.int v12, .int 2] g12 P
  refine sw_imul dX8_centroidsSeen_51 ?_
  refine sw_iload_n dX8_centroidsSeen_52 rfl ?_
  exact sw_icmp_gt dX8_centroidsSeen_53 (by decide) (fun q => (kt q)) (fun q => (kf q))
theorem b_X8_centroidsSeen_56 {r0 : Nat} {r1 : Nat} {l2 : Int32} {l3 : Int32} {l4 : Int32} {l5 : Int32} (k : SW sc m_X8_centroidsSeen d rc rs 65 [some (.ref r0), some (.ref r1), some (.int l2), some (.int l3), some (.int (l4 ||| (1 <<< (l5 &&& 31)))), some (.int l5)] [] h P) : SW sc m_X8_centroidsSeen d rc rs 56 [some (.ref r0), some (.ref r1), some (.int l2), some (.int l3), some (.int l4), some (.int l5)] [] h P := by
  refine sw_iload dX8_centroidsSeen_56 rfl ?_
  refine sw_iconst (v := 1) dX8_centroidsSeen_58 (by decide) ?_
  refine sw_iload dX8_centroidsSeen_59 rfl ?_
  refine sw_ishl dX8_centroidsSeen_61 ?_
  refine sw_ior dX8_centroidsSeen_62 ?_
  refine sw_istore dX8_centroidsSeen_63 (by decide) rfl ?_
  show SW sc m_X8_centroidsSeen _ _ _ 65 [some (.ref r0), some (.ref r1), some (.int l2), some (.int l3), some (.int (l4 ||| (1 <<< (l5 &&& 31)))), some (.int l5)] [] h P
  exact (k)
theorem b_X8_centroidsSeen_65 {r0 : Nat} {r1 : Nat} {l2 : Int32} {l3 : Int32} {l4 : Int32} {l5 : Int32} (k : SW sc m_X8_centroidsSeen d rc rs 13 [some (.ref r0), some (.ref r1), some (.int l2), some (.int l3), some (.int l4), some (.int (l5 + 1))] [] h P) : SW sc m_X8_centroidsSeen d rc rs 65 [some (.ref r0), some (.ref r1), some (.int l2), some (.int l3), some (.int l4), some (.int l5)] [] h P := by
  refine sw_iinc (v := l5 + 1) dX8_centroidsSeen_65 rfl rfl (by decide) rfl ?_
  show SW sc m_X8_centroidsSeen _ _ _ 68 [some (.ref r0), some (.ref r1), some (.int l2), some (.int l3), some (.int l4), some (.int (l5 + 1))] [] h P
  exact sw_goto dX8_centroidsSeen_68 (by decide) (k)
theorem b_X8_centroidsSeen_71 {l4 : Int32} (hP : P (.inl (some (.int l4))) h) : SW sc m_X8_centroidsSeen d rc rs 71 [none, none, none, none, some (.int l4), none] [] h P := by
  refine sw_iload dX8_centroidsSeen_71 rfl ?_
  exact sw_ret (v := (some (.int l4))) dX8_centroidsSeen_73 rt_i hP
theorem b_X8_orbitOf_0 {r0 : Nat} {r1 : Nat} {l2 : Int32} {v3 : Int32} {g3 : ab_H} {fs3 : List Value} {v8 : Int32} {g8 : ab_H} {fs8 : List Value} (hr3 : (h)[r1]? = some (3, fs3)) (hm3 : MSE m_X3_componentWith d [.ref r1, .int l2] h (some (.int v3)) g3) (hr8 : (g3)[r0]? = some (8, fs8)) (hm8 : MSE m_X8_wordFrom d [.ref r0, .ref r1, .int l2] g3 (some (.int v8)) g8) (k : SW sc m_X8_orbitOf (d + 1) rc rs 20 [some (.ref r0), some (.ref r1), none, some (.int v3), some (.int v8), some (.int 0), some (.int 0)] [] g8 P) : SW sc m_X8_orbitOf (d + 1) rc rs 0 [some (.ref r0), some (.ref r1), some (.int l2), none, none, none, none] [] h P := by
  refine sw_aload_n dX8_orbitOf_0 rfl ?_
  refine sw_iload_n dX8_orbitOf_1 rfl ?_
  refine sw_cV dX8_orbitOf_2 lv_X8_92 hm3 hr3 rfl (by decide) rfl rfl rfl (Nat.le_of_ble_eq_true rfl) (fun _ _ => rfl) rfl ?_
  show SW sc m_X8_orbitOf _ _ _ 5 [some (.ref r0), some (.ref r1), some (.int l2), none, none, none, none] [.int v3] g3 P
  refine sw_istore_n dX8_orbitOf_5 (by decide) rfl ?_
  show SW sc m_X8_orbitOf _ _ _ 6 [some (.ref r0), some (.ref r1), some (.int l2), some (.int v3), none, none, none] [] g3 P
  refine sw_aload_n dX8_orbitOf_6 rfl ?_
  refine sw_aload_n dX8_orbitOf_7 rfl ?_
  refine sw_iload_n dX8_orbitOf_8 rfl ?_
  refine sw_cV dX8_orbitOf_9 lv_X8_78 hm8 hr8 rfl (by decide) rfl rfl rfl (Nat.le_of_ble_eq_true rfl) (fun _ _ => rfl) rfl ?_
  show SW sc m_X8_orbitOf _ _ _ 12 [some (.ref r0), some (.ref r1), some (.int l2), some (.int v3), none, none, none] [.int v8] g8 P
  refine sw_istore dX8_orbitOf_12 (by decide) rfl ?_
  show SW sc m_X8_orbitOf _ _ _ 14 [some (.ref r0), some (.ref r1), some (.int l2), some (.int v3), some (.int v8), none, none] [] g8 P
  refine sw_iconst (v := 0) dX8_orbitOf_14 (by decide) ?_
  refine sw_istore dX8_orbitOf_15 (by decide) rfl ?_
  show SW sc m_X8_orbitOf _ _ _ 17 [some (.ref r0), some (.ref r1), some (.int l2), some (.int v3), some (.int v8), some (.int 0), none] [] g8 P
  refine sw_iconst (v := 0) dX8_orbitOf_17 (by decide) ?_
  refine sw_istore dX8_orbitOf_18 (by decide) rfl ?_
  show SW sc m_X8_orbitOf _ _ _ 20 [some (.ref r0), some (.ref r1), some (.int l2), some (.int v3), some (.int v8), some (.int 0), some (.int 0)] [] g8 P
  exact (sw_fg [false, false, true, false, false, false, false] rfl (k))
theorem b_X8_orbitOf_20 {r0 : Nat} {r1 : Nat} {l3 : Int32} {l4 : Int32} {l5 : Int32} {l6 : Int32} {fs3 : List Value} {x3 : Int32} (hc3 : (h)[r1]? = some (3, fs3)) (hv3 : fs3[2]? = some (.int x3)) (kt : x3 ≤ l6 → SW sc m_X8_orbitOf d rc rs 65 [none, none, none, none, none, some (.int l5), none] [] h P) (kf : ¬ (x3 ≤ l6) → SW sc m_X8_orbitOf d rc rs 29 [some (.ref r0), some (.ref r1), none, some (.int l3), some (.int l4), some (.int l5), some (.int l6)] [] h P) : SW sc m_X8_orbitOf d rc rs 20 [some (.ref r0), some (.ref r1), none, some (.int l3), some (.int l4), some (.int l5), some (.int l6)] [] h P := by
  refine sw_iload dX8_orbitOf_20 rfl ?_
  refine sw_aload_n dX8_orbitOf_22 rfl ?_
  refine sw_getf dX8_orbitOf_23 lf_X8_48 hc3 hv3 ?_
  exact sw_icmp_ge dX8_orbitOf_26 (by decide) (fun q => (sw_fg [true, true, false, true, true, false, true] rfl (kt q))) (fun q => (kf q))
theorem b_X8_orbitOf_29 {r0 : Nat} {r1 : Nat} {l3 : Int32} {l4 : Int32} {l5 : Int32} {l6 : Int32} {v3 : Int32} {g3 : ab_H} (hm3 : MSE m_X9_holds d [.int l3, .int l6] h (some (.int v3)) g3) (kt : v3 = 0 → SW sc m_X8_orbitOf (d + 1) rc rs 59 [some (.ref r0), some (.ref r1), none, some (.int l3), some (.int l4), some (.int l5), some (.int l6)] [] g3 P) (kf : ¬ (v3 = 0) → SW sc m_X8_orbitOf (d + 1) rc rs 38 [some (.ref r0), some (.ref r1), none, some (.int l3), some (.int l4), some (.int l5), some (.int l6)] [] g3 P) : SW sc m_X8_orbitOf (d + 1) rc rs 29 [some (.ref r0), some (.ref r1), none, some (.int l3), some (.int l4), some (.int l5), some (.int l6)] [] h P := by
  refine sw_iload_n dX8_orbitOf_29 rfl ?_
  refine sw_iload dX8_orbitOf_30 rfl ?_
  refine sw_cS dX8_orbitOf_32 ls_X8_34 hm3 rfl rfl (Nat.le_of_ble_eq_true rfl) (fun _ _ => rfl) rfl ?_
  show SW sc m_X8_orbitOf _ _ _ 35 [some (.ref r0), some (.ref r1), none, some (.int l3), some (.int l4), some (.int l5), some (.int l6)] [.int v3] g3 P
  exact sw_if_eq dX8_orbitOf_35 (by decide) (fun q => (kt q)) (fun q => (kf q))
theorem b_X8_orbitOf_38 {r0 : Nat} {r1 : Nat} {l3 : Int32} {l4 : Int32} {l5 : Int32} {l6 : Int32} {v4 : Int32} {g4 : ab_H} {fs4 : List Value} (hr4 : (h)[r0]? = some (8, fs4)) (hm4 : MSE m_X8_wordFrom d [.ref r0, .ref r1, .int l6] h (some (.int v4)) g4) (kt : ¬ v4 = l4 → SW sc m_X8_orbitOf (d + 1) rc rs 59 [some (.ref r0), some (.ref r1), none, some (.int l3), some (.int l4), some (.int l5), some (.int l6)] [] g4 P) (kf : v4 = l4 → SW sc m_X8_orbitOf (d + 1) rc rs 50 [some (.ref r0), some (.ref r1), none, some (.int l3), some (.int l4), some (.int l5), some (.int l6)] [] g4 P) : SW sc m_X8_orbitOf (d + 1) rc rs 38 [some (.ref r0), some (.ref r1), none, some (.int l3), some (.int l4), some (.int l5), some (.int l6)] [] h P := by
  refine sw_aload_n dX8_orbitOf_38 rfl ?_
  refine sw_aload_n dX8_orbitOf_39 rfl ?_
  refine sw_iload dX8_orbitOf_40 rfl ?_
  refine sw_cV dX8_orbitOf_42 lv_X8_78 hm4 hr4 rfl (by decide) rfl rfl rfl (Nat.le_of_ble_eq_true rfl) (fun _ _ => rfl) rfl ?_
  show SW sc m_X8_orbitOf _ _ _ 45 [some (.ref r0), some (.ref r1), none, some (.int l3), some (.int l4), some (.int l5), some (.int l6)] [.int v4] g4 P
  refine sw_iload dX8_orbitOf_45 rfl ?_
  exact sw_icmp_ne dX8_orbitOf_47 (by decide) (fun q => (kt q)) (fun q => (kf q))
theorem b_X8_orbitOf_50 {r0 : Nat} {r1 : Nat} {l3 : Int32} {l4 : Int32} {l5 : Int32} {l6 : Int32} (k : SW sc m_X8_orbitOf d rc rs 59 [some (.ref r0), some (.ref r1), none, some (.int l3), some (.int l4), some (.int (l5 ||| (1 <<< (l6 &&& 31)))), some (.int l6)] [] h P) : SW sc m_X8_orbitOf d rc rs 50 [some (.ref r0), some (.ref r1), none, some (.int l3), some (.int l4), some (.int l5), some (.int l6)] [] h P := by
  refine sw_iload dX8_orbitOf_50 rfl ?_
  refine sw_iconst (v := 1) dX8_orbitOf_52 (by decide) ?_
  refine sw_iload dX8_orbitOf_53 rfl ?_
  refine sw_ishl dX8_orbitOf_55 ?_
  refine sw_ior dX8_orbitOf_56 ?_
  refine sw_istore dX8_orbitOf_57 (by decide) rfl ?_
  show SW sc m_X8_orbitOf _ _ _ 59 [some (.ref r0), some (.ref r1), none, some (.int l3), some (.int l4), some (.int (l5 ||| (1 <<< (l6 &&& 31)))), some (.int l6)] [] h P
  exact (k)
theorem b_X8_orbitOf_59 {r0 : Nat} {r1 : Nat} {l3 : Int32} {l4 : Int32} {l5 : Int32} {l6 : Int32} (k : SW sc m_X8_orbitOf d rc rs 20 [some (.ref r0), some (.ref r1), none, some (.int l3), some (.int l4), some (.int l5), some (.int (l6 + 1))] [] h P) : SW sc m_X8_orbitOf d rc rs 59 [some (.ref r0), some (.ref r1), none, some (.int l3), some (.int l4), some (.int l5), some (.int l6)] [] h P := by
  refine sw_iinc (v := l6 + 1) dX8_orbitOf_59 rfl rfl (by decide) rfl ?_
  show SW sc m_X8_orbitOf _ _ _ 62 [some (.ref r0), some (.ref r1), none, some (.int l3), some (.int l4), some (.int l5), some (.int (l6 + 1))] [] h P
  exact sw_goto dX8_orbitOf_62 (by decide) (k)
theorem b_X8_orbitOf_65 {l5 : Int32} (hP : P (.inl (some (.int l5))) h) : SW sc m_X8_orbitOf d rc rs 65 [none, none, none, none, none, some (.int l5), none] [] h P := by
  refine sw_iload dX8_orbitOf_65 rfl ?_
  exact sw_ret (v := (some (.int l5))) dX8_orbitOf_67 rt_i hP
theorem b_X8_symmetriesOf_0 {r0 : Nat} {r1 : Nat} {l2 : Int32} {v2 : Int32} {g2 : ab_H} (hm2 : MSE m_X9_lowest d [.int l2] h (some (.int v2)) g2) (kt : ¬ v2 = (-1) → SW sc m_X8_symmetriesOf (d + 1) rc rs 12 [some (.ref r0), some (.ref r1), none, some (.int v2), none] [] g2 P) (kf : v2 = (-1) → SW sc m_X8_symmetriesOf (d + 1) rc rs 10 [none, none, none, none, none] [] g2 P) : SW sc m_X8_symmetriesOf (d + 1) rc rs 0 [some (.ref r0), some (.ref r1), some (.int l2), none, none] [] h P := by
  refine sw_iload_n dX8_symmetriesOf_0 rfl ?_
  refine sw_cS dX8_symmetriesOf_1 ls_X8_75 hm2 rfl rfl (Nat.le_of_ble_eq_true rfl) (fun _ _ => rfl) rfl ?_
  show SW sc m_X8_symmetriesOf _ _ _ 4 [some (.ref r0), some (.ref r1), some (.int l2), none, none] [.int v2] g2 P
  refine sw_istore_n dX8_symmetriesOf_4 (by decide) rfl ?_
  show SW sc m_X8_symmetriesOf _ _ _ 5 [some (.ref r0), some (.ref r1), some (.int l2), some (.int v2), none] [] g2 P
  refine sw_iload_n dX8_symmetriesOf_5 rfl ?_
  refine sw_iconst (v := (-1)) dX8_symmetriesOf_6 (by decide) ?_
  exact sw_icmp_ne dX8_symmetriesOf_7 (by decide) (fun q => (sw_fg [false, false, true, false, false] rfl (kt q))) (fun q => (sw_fg [true, true, true, true, false] rfl (kf q)))
theorem b_X8_symmetriesOf_10  (hP : P (.inl (some (.int 0))) h) : SW sc m_X8_symmetriesOf d rc rs 10 [none, none, none, none, none] [] h P := by
  refine sw_iconst (v := 0) dX8_symmetriesOf_10 (by decide) ?_
  exact sw_ret (v := (some (.int 0))) dX8_symmetriesOf_11 rt_i hP
theorem b_X8_symmetriesOf_12 {r0 : Nat} {r1 : Nat} {l3 : Int32} {v4 : Int32} {g4 : ab_H} {fs4 : List Value} {v5 : Int32} {g5 : ab_H} {v10 : Int32} {g10 : ab_H} {fs10 : List Value} {fs14 : List Value} {a14 : Nat} {vs16 : List Value} {x16 : Int32} (hr4 : (h)[r0]? = some (8, fs4)) (hm4 : MSE m_X8_orbitOf d [.ref r0, .ref r1, .int l3] h (some (.int v4)) g4) (hm5 : MSE m_J6_bitCount_0f7a4 d [.int v4] g4 (some (.int v5)) g5) (hr10 : (g5)[r0]? = some (8, fs10)) (hm10 : MSE m_X8_wordFrom d [.ref r0, .ref r1, .int l3] g5 (some (.int v10)) g10) (hc14 : (g10)[r0]? = some (8, fs14)) (hv14 : fs14[4]? = some (.ref a14)) (hc16 : (g10)[a14]? = some (100, vs16)) (ho16 : ¬ l3 < 0) (hi16 : vs16[l3.toNatClampNeg]? = some (.int x16)) (hP : P (.inl (some (.int (v5 * x16)))) g10) : SW sc m_X8_symmetriesOf (d + 1) rc rs 12 [some (.ref r0), some (.ref r1), none, some (.int l3), none] [] h P := by
  refine sw_aload_n dX8_symmetriesOf_12 rfl ?_
  refine sw_aload_n dX8_symmetriesOf_13 rfl ?_
  refine sw_iload_n dX8_symmetriesOf_14 rfl ?_
  refine sw_cV dX8_symmetriesOf_15 lv_X8_95 hm4 hr4 rfl (by decide) rfl rfl rfl (Nat.le_of_ble_eq_true rfl) (fun _ _ => rfl) rfl ?_
  show SW sc m_X8_symmetriesOf _ _ _ 18 [some (.ref r0), some (.ref r1), none, some (.int l3), none] [.int v4] g4 P
  refine sw_cS dX8_symmetriesOf_18 ls_X8_87 hm5 rfl rfl (Nat.le_of_ble_eq_true rfl) (fun _ _ => rfl) rfl ?_
  show SW sc m_X8_symmetriesOf _ _ _ 21 [some (.ref r0), some (.ref r1), none, some (.int l3), none] [.int v5] g5 P
  refine sw_istore dX8_symmetriesOf_21 (by decide) rfl ?_
  show SW sc m_X8_symmetriesOf _ _ _ 23 [some (.ref r0), some (.ref r1), none, some (.int l3), some (.int v5)] [] g5 P
  refine sw_aload_n dX8_symmetriesOf_23 rfl ?_
  refine sw_aload_n dX8_symmetriesOf_24 rfl ?_
  refine sw_iload_n dX8_symmetriesOf_25 rfl ?_
  refine sw_cV dX8_symmetriesOf_26 lv_X8_78 hm10 hr10 rfl (by decide) rfl rfl rfl (Nat.le_of_ble_eq_true rfl) (fun _ _ => rfl) rfl ?_
  show SW sc m_X8_symmetriesOf _ _ _ 29 [some (.ref r0), some (.ref r1), none, some (.int l3), some (.int v5)] [.int v10] g10 P
  refine sw_pop dX8_symmetriesOf_29 (fun _ _ => rfl) ?_
  refine sw_iload dX8_symmetriesOf_30 rfl ?_
  refine sw_aload_n dX8_symmetriesOf_32 rfl ?_
  refine sw_getf dX8_symmetriesOf_33 lf_X8_24 hc14 hv14 ?_
  refine sw_iload_n dX8_symmetriesOf_36 rfl ?_
  refine sw_iald dX8_symmetriesOf_37 hc16 ho16 hi16 ?_
  refine sw_imul dX8_symmetriesOf_38 ?_
  exact sw_ret (v := (some (.int (v5 * x16)))) dX8_symmetriesOf_39 rt_i hP
theorem b_X8_classOf_0 {r0 : Nat} {r1 : Nat} {l2 : Int32} {fs2 : List Value} {a2 : Nat} {g3 : ab_H} {fs3 : List Value} (hc2 : (h)[r0]? = some (8, fs2)) (hv2 : fs2[5]? = some (.ref a2)) (hr3 : (h)[a2]? = some (4, fs3)) (hm3 : MSE m_X4_forget d [.ref a2] h none g3) (k : SW sc m_X8_classOf (d + 1) rc rs 12 [some (.ref r0), some (.ref r1), some (.int l2), some (.int (-1)), some (.int 0)] [] g3 P) : SW sc m_X8_classOf (d + 1) rc rs 0 [some (.ref r0), some (.ref r1), some (.int l2), none, none] [] h P := by
  refine sw_aload_n dX8_classOf_0 rfl ?_
  refine sw_getf dX8_classOf_1 lf_X8_30 hc2 hv2 ?_
  refine sw_cV dX8_classOf_4 lv_X8_98 hm3 hr3 rfl (by decide) rfl rfl rfl (Nat.le_of_ble_eq_true rfl) (fun _ _ => rfl) rfl ?_
  show SW sc m_X8_classOf _ _ _ 7 [some (.ref r0), some (.ref r1), some (.int l2), none, none] [] g3 P
  refine sw_iconst (v := (-1)) dX8_classOf_7 (by decide) ?_
  refine sw_istore_n dX8_classOf_8 (by decide) rfl ?_
  show SW sc m_X8_classOf _ _ _ 9 [some (.ref r0), some (.ref r1), some (.int l2), some (.int (-1)), none] [] g3 P
  refine sw_iconst (v := 0) dX8_classOf_9 (by decide) ?_
  refine sw_istore dX8_classOf_10 (by decide) rfl ?_
  show SW sc m_X8_classOf _ _ _ 12 [some (.ref r0), some (.ref r1), some (.int l2), some (.int (-1)), some (.int 0)] [] g3 P
  exact (k)
theorem b_X8_classOf_12 {r0 : Nat} {r1 : Nat} {l2 : Int32} {l3 : Int32} {l4 : Int32} (kt : l2 < l4 → SW sc m_X8_classOf d rc rs 50 [none, none, none, some (.int l3), none] [] h P) (kf : ¬ (l2 < l4) → SW sc m_X8_classOf d rc rs 18 [some (.ref r0), some (.ref r1), some (.int l2), some (.int l3), some (.int l4)] [] h P) : SW sc m_X8_classOf d rc rs 12 [some (.ref r0), some (.ref r1), some (.int l2), some (.int l3), some (.int l4)] [] h P := by
  refine sw_iload dX8_classOf_12 rfl ?_
  refine sw_iload_n dX8_classOf_14 rfl ?_
  exact sw_icmp_gt dX8_classOf_15 (by decide) (fun q => (sw_fg [true, true, true, false, true] rfl (kt q))) (fun q => (kf q))
theorem b_X8_classOf_18 {r0 : Nat} {r1 : Nat} {l2 : Int32} {l3 : Int32} {l4 : Int32} (kt : 10 ≤ l4 → SW sc m_X8_classOf d rc rs 50 [none, none, none, some (.int l3), none] [] h P) (kf : ¬ (10 ≤ l4) → SW sc m_X8_classOf d rc rs 25 [some (.ref r0), some (.ref r1), some (.int l2), none, some (.int l4)] [] h P) : SW sc m_X8_classOf d rc rs 18 [some (.ref r0), some (.ref r1), some (.int l2), some (.int l3), some (.int l4)] [] h P := by
  refine sw_iload dX8_classOf_18 rfl ?_
  refine sw_bipush (v := 10) dX8_classOf_20 (by decide) ?_
  exact sw_icmp_ge dX8_classOf_22 (by decide) (fun q => (sw_fg [true, true, true, false, true] rfl (kt q))) (fun q => (sw_fg [false, false, false, true, false] rfl (kf q)))
theorem b_X8_classOf_25 {r0 : Nat} {r1 : Nat} {l2 : Int32} {l4 : Int32} {fs2 : List Value} {a2 : Nat} {v7 : Int32} {g7 : ab_H} {fs7 : List Value} {v8 : Int32} {g8 : ab_H} {fs8 : List Value} {v9 : Int32} {g9 : ab_H} {fs9 : List Value} (hc2 : (h)[r0]? = some (8, fs2)) (hv2 : fs2[5]? = some (.ref a2)) (hr7 : (h)[r1]? = some (3, fs7)) (hm7 : MSE m_X3_componentSet d [.ref r1, .int l4] h (some (.int v7)) g7) (hr8 : (g7)[r0]? = some (8, fs8)) (hm8 : MSE m_X8_wordOf d [.ref r0, .ref r1, .int v7] g7 (some (.int v8)) g8) (hr9 : (g8)[a2]? = some (4, fs9)) (hm9 : MSE m_X4_numberOf d [.ref a2, .int v8] g8 (some (.int v9)) g9) (k : SW sc m_X8_classOf (d + 1) rc rs 12 [some (.ref r0), some (.ref r1), some (.int l2), some (.int v9), some (.int (l4 + 1))] [] g9 P) : SW sc m_X8_classOf (d + 1) rc rs 25 [some (.ref r0), some (.ref r1), some (.int l2), none, some (.int l4)] [] h P := by
  refine sw_aload_n dX8_classOf_25 rfl ?_
  refine sw_getf dX8_classOf_26 lf_X8_30 hc2 hv2 ?_
  refine sw_aload_n dX8_classOf_29 rfl ?_
  refine sw_aload_n dX8_classOf_30 rfl ?_
  refine sw_aload_n dX8_classOf_31 rfl ?_
  refine sw_iload dX8_classOf_32 rfl ?_
  refine sw_cV dX8_classOf_34 lv_X8_101 hm7 hr7 rfl (by decide) rfl rfl rfl (Nat.le_of_ble_eq_true rfl) (fun _ _ => rfl) rfl ?_
  show SW sc m_X8_classOf _ _ _ 37 [some (.ref r0), some (.ref r1), some (.int l2), none, some (.int l4)] [.int v7, .ref r1, .ref r0, .ref a2] g7 P
  refine sw_cV dX8_classOf_37 lv_X8_104 hm8 hr8 rfl (by decide) rfl rfl rfl (Nat.le_of_ble_eq_true rfl) (fun _ _ => rfl) rfl ?_
  show SW sc m_X8_classOf _ _ _ 40 [some (.ref r0), some (.ref r1), some (.int l2), none, some (.int l4)] [.int v8, .ref a2] g8 P
  refine sw_cV dX8_classOf_40 lv_X8_107 hm9 hr9 rfl (by decide) rfl rfl rfl (Nat.le_of_ble_eq_true rfl) (fun _ _ => rfl) rfl ?_
  show SW sc m_X8_classOf _ _ _ 43 [some (.ref r0), some (.ref r1), some (.int l2), none, some (.int l4)] [.int v9] g9 P
  refine sw_istore_n dX8_classOf_43 (by decide) rfl ?_
  show SW sc m_X8_classOf _ _ _ 44 [some (.ref r0), some (.ref r1), some (.int l2), some (.int v9), some (.int l4)] [] g9 P
  refine sw_iinc (v := l4 + 1) dX8_classOf_44 rfl rfl (by decide) rfl ?_
  show SW sc m_X8_classOf _ _ _ 47 [some (.ref r0), some (.ref r1), some (.int l2), some (.int v9), some (.int (l4 + 1))] [] g9 P
  exact sw_goto dX8_classOf_47 (by decide) (k)
theorem b_X8_classOf_50 {l3 : Int32} (hP : P (.inl (some (.int l3))) h) : SW sc m_X8_classOf d rc rs 50 [none, none, none, some (.int l3), none] [] h P := by
  refine sw_iload_n dX8_classOf_50 rfl ?_
  exact sw_ret (v := (some (.int l3))) dX8_classOf_51 rt_i hP
theorem b_X9_append_0 {r0 : Nat} {l1 : Int32} {l2 : Int32} {l3 : Int32} {l4 : Int32} {l5 : Int32} {fs2 : List Value} {a2 : Nat} {fs3 : List Value} {a3 : Nat} {fs6 : List Value} {x6 : Int32} (hc2 : (h)[r0]? = some (9, fs2)) (hv2 : fs2[0]? = some (.ref a2)) (hc3 : (h)[a2]? = some (6, fs3)) (hv3 : fs3[0]? = some (.ref a3)) (hc6 : (h)[a3]? = some (0, fs6)) (hv6 : fs6[1]? = some (.int x6)) (kt : (x6 + 20) ≤ 400 → SW sc m_X9_append d rc rs 25 [none, some (.int l1), some (.int l2), some (.int l3), some (.int l4), some (.int l5), some (.ref a3)] [] h P) (kf : ¬ ((x6 + 20) ≤ 400) → SW sc m_X9_append d rc rs 23 [none, none, none, none, none, none, none] [] h P) : SW sc m_X9_append d rc rs 0 [some (.ref r0), some (.int l1), some (.int l2), some (.int l3), some (.int l4), some (.int l5), none] [] h P := by
  refine sw_aload_n dX9_append_0 rfl ?_
  refine sw_getf dX9_append_1 lf_X9_12 hc2 hv2 ?_
  refine sw_getf dX9_append_4 lf_X9_72 hc3 hv3 ?_
  refine sw_astore dX9_append_7 (by decide) rfl ?_
  show SW sc m_X9_append _ _ _ 9 [some (.ref r0), some (.int l1), some (.int l2), some (.int l3), some (.int l4), some (.int l5), some (.ref a3)] [] h P
  refine sw_aload dX9_append_9 rfl ?_
  refine sw_getf dX9_append_11 lf_X9_75 hc6 hv6 ?_
  refine sw_bipush (v := 20) dX9_append_14 (by decide) ?_
  refine sw_iadd dX9_append_16 ?_
  refine sw_sipush (v := 400) dX9_append_17 (by decide) ?_
  exact sw_icmp_le dX9_append_20 (by decide) (fun q => (sw_fg [true, false, false, false, false, false, false] rfl (kt q))) (fun q => (sw_fg [true, true, true, true, true, true, true] rfl (kf q)))
theorem b_X9_append_23  (hP : P (.inl (some (.int (-1)))) h) : SW sc m_X9_append d rc rs 23 [none, none, none, none, none, none, none] [] h P := by
  refine sw_iconst (v := (-1)) dX9_append_23 (by decide) ?_
  exact sw_ret (v := (some (.int (-1)))) dX9_append_24 rt_i hP
theorem b_X9_append_25 {l1 : Int32} {l2 : Int32} {l3 : Int32} {l4 : Int32} {l5 : Int32} {r6 : Nat} {g3 : ab_H} {fs3 : List Value} {g6 : ab_H} {fs6 : List Value} {g9 : ab_H} {fs9 : List Value} {g12 : ab_H} {fs12 : List Value} {g15 : ab_H} {fs15 : List Value} {fs17 : List Value} {x17 : Int32} (hr3 : (h)[r6]? = some (0, fs3)) (hm3 : MSE m_X0_putFour d [.ref r6, .int l1] h none g3) (hr6 : (g3)[r6]? = some (0, fs6)) (hm6 : MSE m_X0_putFour d [.ref r6, .int l2] g3 none g6) (hr9 : (g6)[r6]? = some (0, fs9)) (hm9 : MSE m_X0_putFour d [.ref r6, .int l3] g6 none g9) (hr12 : (g9)[r6]? = some (0, fs12)) (hm12 : MSE m_X0_putFour d [.ref r6, .int l4] g9 none g12) (hr15 : (g12)[r6]? = some (0, fs15)) (hm15 : MSE m_X0_putFour d [.ref r6, .int l5] g12 none g15) (hc17 : (g15)[r6]? = some (0, fs17)) (hv17 : fs17[1]? = some (.int x17)) (hP : P (.inl (some (.int x17))) g15) : SW sc m_X9_append (d + 1) rc rs 25 [none, some (.int l1), some (.int l2), some (.int l3), some (.int l4), some (.int l5), some (.ref r6)] [] h P := by
  refine sw_aload dX9_append_25 rfl ?_
  refine sw_iload_n dX9_append_27 rfl ?_
  refine sw_cV dX9_append_28 lv_X9_79 hm3 hr3 rfl (by decide) rfl rfl rfl (Nat.le_of_ble_eq_true rfl) (fun _ _ => rfl) rfl ?_
  show SW sc m_X9_append _ _ _ 31 [none, some (.int l1), some (.int l2), some (.int l3), some (.int l4), some (.int l5), some (.ref r6)] [] g3 P
  refine sw_aload dX9_append_31 rfl ?_
  refine sw_iload_n dX9_append_33 rfl ?_
  refine sw_cV dX9_append_34 lv_X9_79 hm6 hr6 rfl (by decide) rfl rfl rfl (Nat.le_of_ble_eq_true rfl) (fun _ _ => rfl) rfl ?_
  show SW sc m_X9_append _ _ _ 37 [none, some (.int l1), some (.int l2), some (.int l3), some (.int l4), some (.int l5), some (.ref r6)] [] g6 P
  refine sw_aload dX9_append_37 rfl ?_
  refine sw_iload_n dX9_append_39 rfl ?_
  refine sw_cV dX9_append_40 lv_X9_79 hm9 hr9 rfl (by decide) rfl rfl rfl (Nat.le_of_ble_eq_true rfl) (fun _ _ => rfl) rfl ?_
  show SW sc m_X9_append _ _ _ 43 [none, some (.int l1), some (.int l2), some (.int l3), some (.int l4), some (.int l5), some (.ref r6)] [] g9 P
  refine sw_aload dX9_append_43 rfl ?_
  refine sw_iload dX9_append_45 rfl ?_
  refine sw_cV dX9_append_47 lv_X9_79 hm12 hr12 rfl (by decide) rfl rfl rfl (Nat.le_of_ble_eq_true rfl) (fun _ _ => rfl) rfl ?_
  show SW sc m_X9_append _ _ _ 50 [none, some (.int l1), some (.int l2), some (.int l3), some (.int l4), some (.int l5), some (.ref r6)] [] g12 P
  refine sw_aload dX9_append_50 rfl ?_
  refine sw_iload dX9_append_52 rfl ?_
  refine sw_cV dX9_append_54 lv_X9_79 hm15 hr15 rfl (by decide) rfl rfl rfl (Nat.le_of_ble_eq_true rfl) (fun _ _ => rfl) rfl ?_
  show SW sc m_X9_append _ _ _ 57 [none, some (.int l1), some (.int l2), some (.int l3), some (.int l4), some (.int l5), some (.ref r6)] [] g15 P
  refine sw_aload dX9_append_57 rfl ?_
  refine sw_getf dX9_append_59 lf_X9_75 hc17 hv17 ?_
  exact sw_ret (v := (some (.int x17))) dX9_append_62 rt_i hP
theorem b_X9_truncate_0 {r0 : Nat} {l1 : Int32} {fs2 : List Value} {a2 : Nat} {fs3 : List Value} {a3 : Nat} {v5 : Int32} {g5 : ab_H} {fs5 : List Value} (hc2 : (h)[r0]? = some (9, fs2)) (hv2 : fs2[0]? = some (.ref a2)) (hc3 : (h)[a2]? = some (6, fs3)) (hv3 : fs3[0]? = some (.ref a3)) (hr5 : (h)[a3]? = some (0, fs5)) (hm5 : MSE m_X0_shorten d [.ref a3, .int l1] h (some (.int v5)) g5) (hz6 : narrow .boolean (.int v5) = .int v5) (hP : P (.inl (some (.int v5))) g5) : SW sc m_X9_truncate (d + 1) rc rs 0 [some (.ref r0), some (.int l1)] [] h P := by
  refine sw_aload_n dX9_truncate_0 rfl ?_
  refine sw_getf dX9_truncate_1 lf_X9_12 hc2 hv2 ?_
  refine sw_getf dX9_truncate_4 lf_X9_72 hc3 hv3 ?_
  refine sw_iload_n dX9_truncate_7 rfl ?_
  refine sw_cV dX9_truncate_8 lv_X9_83 hm5 hr5 rfl (by decide) rfl rfl rfl (Nat.le_of_ble_eq_true rfl) (fun _ _ => rfl) rfl ?_
  show SW sc m_X9_truncate _ _ _ 11 [some (.ref r0), some (.int l1)] [.int v5] g5 P
  exact sw_ret (v := (some (.int v5))) dX9_truncate_11 (rt_n hz6) hP
theorem b_X9_bufferLength_0 {r0 : Nat} {fs2 : List Value} {a2 : Nat} {fs3 : List Value} {a3 : Nat} {fs4 : List Value} {x4 : Int32} (hc2 : (h)[r0]? = some (9, fs2)) (hv2 : fs2[0]? = some (.ref a2)) (hc3 : (h)[a2]? = some (6, fs3)) (hv3 : fs3[0]? = some (.ref a3)) (hc4 : (h)[a3]? = some (0, fs4)) (hv4 : fs4[1]? = some (.int x4)) (hP : P (.inl (some (.int x4))) h) : SW sc m_X9_bufferLength d rc rs 0 [some (.ref r0)] [] h P := by
  refine sw_aload_n dX9_bufferLength_0 rfl ?_
  refine sw_getf dX9_bufferLength_1 lf_X9_12 hc2 hv2 ?_
  refine sw_getf dX9_bufferLength_4 lf_X9_72 hc3 hv3 ?_
  refine sw_getf dX9_bufferLength_7 lf_X9_75 hc4 hv4 ?_
  exact sw_ret (v := (some (.int x4))) dX9_bufferLength_10 rt_i hP
theorem b_X9_load_0 {r0 : Nat} {fs2 : List Value} {a2 : Nat} {v3 : Int32} {g3 : ab_H} {fs3 : List Value} {fs6 : List Value} {a6 : Nat} {fs7 : List Value} {a7 : Nat} {v9 : Int32} {g9 : ab_H} {fs9 : List Value} (hc2 : (h)[r0]? = some (9, fs2)) (hv2 : fs2[0]? = some (.ref a2)) (hr3 : (h)[a2]? = some (6, fs3)) (hm3 : MSE m_X6_readText d [.ref a2] h (some (.int v3)) g3) (hc6 : (g3)[r0]? = some (9, fs6)) (hv6 : fs6[0]? = some (.ref a6)) (hc7 : (g3)[a6]? = some (6, fs7)) (hv7 : fs7[0]? = some (.ref a7)) (hr9 : (g3)[a7]? = some (0, fs9)) (hm9 : MSE m_X0_shorten d [.ref a7, .int 0] g3 (some (.int v9)) g9) (kt : v3 = 0 → SW sc m_X9_load (d + 1) rc rs 27 [some (.ref r0), none] [] g9 P) (kf : ¬ (v3 = 0) → SW sc m_X9_load (d + 1) rc rs 24 [none, some (.int v3)] [] g9 P) : SW sc m_X9_load (d + 1) rc rs 0 [some (.ref r0), none] [] h P := by
  refine sw_aload_n dX9_load_0 rfl ?_
  refine sw_getf dX9_load_1 lf_X9_12 hc2 hv2 ?_
  refine sw_cV dX9_load_4 lv_X9_87 hm3 hr3 rfl (by decide) rfl rfl rfl (Nat.le_of_ble_eq_true rfl) (fun _ _ => rfl) rfl ?_
  show SW sc m_X9_load _ _ _ 7 [some (.ref r0), none] [.int v3] g3 P
  refine sw_istore_n dX9_load_7 (by decide) rfl ?_
  show SW sc m_X9_load _ _ _ 8 [some (.ref r0), some (.int v3)] [] g3 P
  refine sw_aload_n dX9_load_8 rfl ?_
  refine sw_getf dX9_load_9 lf_X9_12 hc6 hv6 ?_
  refine sw_getf dX9_load_12 lf_X9_72 hc7 hv7 ?_
  refine sw_iconst (v := 0) dX9_load_15 (by decide) ?_
  refine sw_cV dX9_load_16 lv_X9_83 hm9 hr9 rfl (by decide) rfl rfl rfl (Nat.le_of_ble_eq_true rfl) (fun _ _ => rfl) rfl ?_
  show SW sc m_X9_load _ _ _ 19 [some (.ref r0), some (.int v3)] [.int v9] g9 P
  refine sw_pop dX9_load_19 (fun _ _ => rfl) ?_
  refine sw_iload_n dX9_load_20 rfl ?_
  exact sw_if_eq dX9_load_21 (by decide) (fun q => (sw_fg [false, true] rfl (kt q))) (fun q => (sw_fg [true, false] rfl (kf q)))
theorem b_X9_load_24 {l1 : Int32} (hP : P (.inl (some (.int (-l1)))) h) : SW sc m_X9_load d rc rs 24 [none, some (.int l1)] [] h P := by
  refine sw_iload_n dX9_load_24 rfl ?_
  refine sw_ineg dX9_load_25 ?_
  exact sw_ret (v := (some (.int (-l1)))) dX9_load_26 rt_i hP
theorem b_X9_load_27 {r0 : Nat} {fs2 : List Value} {a2 : Nat} {fs4 : List Value} {a4 : Nat} {fs5 : List Value} {a5 : Nat} {g6 : ab_H} {fs6 : List Value} {fs8 : List Value} {a8 : Nat} {g9 : ab_H} {fs9 : List Value} {fs11 : List Value} {a11 : Nat} {g13 : ab_H} {fs15 : List Value} {a15 : Nat} {v16 : Int32} {g16 : ab_H} {fs16 : List Value} (hc2 : (h)[r0]? = some (9, fs2)) (hv2 : fs2[2]? = some (.ref a2)) (hc4 : (h)[r0]? = some (9, fs4)) (hv4 : fs4[0]? = some (.ref a4)) (hc5 : (h)[a4]? = some (6, fs5)) (hv5 : fs5[1]? = some (.ref a5)) (hr6 : (h)[a2]? = some (3, fs6)) (hm6 : MSE m_X3_copy d [.ref a2, .ref a5] h none g6) (hc8 : (g6)[r0]? = some (9, fs8)) (hv8 : fs8[8]? = some (.ref a8)) (hr9 : (g6)[a8]? = some (5, fs9)) (hm9 : MSE m_X5_forget d [.ref a8] g6 none g9) (hc11 : (g9)[r0]? = some (9, fs11)) (hv11 : fs11[9]? = some (.ref a11)) (hm13 : MSE m_J7_fill_53178 d [.ref a11, .int 0] g9 none g13) (hc15 : (g13)[r0]? = some (9, fs15)) (hv15 : fs15[2]? = some (.ref a15)) (hr16 : (g13)[a15]? = some (3, fs16)) (hm16 : MSE m_X3_edges d [.ref a15] g13 (some (.int v16)) g16) (hP : P (.inl (some (.int v16))) g16) : SW sc m_X9_load (d + 1) rc rs 27 [some (.ref r0), none] [] h P := by
  refine sw_aload_n dX9_load_27 rfl ?_
  refine sw_getf dX9_load_28 lf_X9_26 hc2 hv2 ?_
  refine sw_aload_n dX9_load_31 rfl ?_
  refine sw_getf dX9_load_32 lf_X9_12 hc4 hv4 ?_
  refine sw_getf dX9_load_35 lf_X9_91 hc5 hv5 ?_
  refine sw_cV dX9_load_38 lv_X9_94 hm6 hr6 rfl (by decide) rfl rfl rfl (Nat.le_of_ble_eq_true rfl) (fun _ _ => rfl) rfl ?_
  show SW sc m_X9_load _ _ _ 41 [some (.ref r0), none] [] g6 P
  refine sw_aload_n dX9_load_41 rfl ?_
  refine sw_getf dX9_load_42 lf_X9_64 hc8 hv8 ?_
  refine sw_cV dX9_load_45 lv_X9_98 hm9 hr9 rfl (by decide) rfl rfl rfl (Nat.le_of_ble_eq_true rfl) (fun _ _ => rfl) rfl ?_
  show SW sc m_X9_load _ _ _ 48 [some (.ref r0), none] [] g9 P
  refine sw_aload_n dX9_load_48 rfl ?_
  refine sw_getf dX9_load_49 lf_X9_68 hc11 hv11 ?_
  refine sw_iconst (v := 0) dX9_load_52 (by decide) ?_
  refine sw_cS dX9_load_53 ls_X9_101 hm13 rfl rfl (Nat.le_of_ble_eq_true rfl) (fun _ _ => rfl) rfl ?_
  show SW sc m_X9_load _ _ _ 56 [some (.ref r0), none] [] g13 P
  refine sw_aload_n dX9_load_56 rfl ?_
  refine sw_getf dX9_load_57 lf_X9_26 hc15 hv15 ?_
  refine sw_cV dX9_load_60 lv_X9_107 hm16 hr16 rfl (by decide) rfl rfl rfl (Nat.le_of_ble_eq_true rfl) (fun _ _ => rfl) rfl ?_
  show SW sc m_X9_load _ _ _ 63 [some (.ref r0), none] [.int v16] g16 P
  exact sw_ret (v := (some (.int v16))) dX9_load_63 rt_i hP
theorem b_X9_forest_0 {r0 : Nat} {l1 : Int32} (k0 : l1 = 0 → SW sc m_X9_forest d rc rs 52 [some (.ref r0), none] [] h P) (k1 : l1 = 1 → SW sc m_X9_forest d rc rs 60 [some (.ref r0), none] [] h P) (k2 : l1 = 2 → SW sc m_X9_forest d rc rs 68 [some (.ref r0), none] [] h P) (k3 : l1 = 3 → SW sc m_X9_forest d rc rs 76 [some (.ref r0), none] [] h P) (k4 : l1 = 4 → SW sc m_X9_forest d rc rs 92 [some (.ref r0), none] [] h P) (k5 : l1 = 5 → SW sc m_X9_forest d rc rs 108 [some (.ref r0), none] [] h P) (k6 : l1 = 6 → SW sc m_X9_forest d rc rs 123 [some (.ref r0), none] [] h P) (k7 : l1 = 7 → SW sc m_X9_forest d rc rs 155 [some (.ref r0), none] [] h P) (k8 : l1 = 8 → SW sc m_X9_forest d rc rs 163 [some (.ref r0), none] [] h P) (kd : (∀ i : Nat, i < 9 → ¬ l1 = Int32.ofNat i) → SW sc m_X9_forest d rc rs 171 [none, none] [] h P) : SW sc m_X9_forest d rc rs 0 [some (.ref r0), some (.int l1)] [] h P := by
  refine sw_iload_n dX9_forest_0 rfl ?_
  by_cases ho : (l1).toInt < 0 ∨ 8 < (l1).toInt
  · exact sw_tableOut dX9_forest_1 ho (by decide) (sw_fg [true, true] rfl (kd (ab_swOut (n := 9) (by decide) ho)))
  · obtain ⟨i, hi, hx⟩ := ab_swIn (n := 9) (by decide) ho
    by_cases h0 : i = 0
    · subst h0
      exact sw_tableIn (off := 51) dX9_forest_1 (by rw [hx]; decide) (by rw [hx]; decide) (by rw [hx]; decide) (by decide) (sw_fg [false, true] rfl (k0 (by rw [hx]; decide)))
    by_cases h1 : i = 1
    · subst h1
      exact sw_tableIn (off := 59) dX9_forest_1 (by rw [hx]; decide) (by rw [hx]; decide) (by rw [hx]; decide) (by decide) (sw_fg [false, true] rfl (k1 (by rw [hx]; decide)))
    by_cases h2 : i = 2
    · subst h2
      exact sw_tableIn (off := 67) dX9_forest_1 (by rw [hx]; decide) (by rw [hx]; decide) (by rw [hx]; decide) (by decide) (sw_fg [false, true] rfl (k2 (by rw [hx]; decide)))
    by_cases h3 : i = 3
    · subst h3
      exact sw_tableIn (off := 75) dX9_forest_1 (by rw [hx]; decide) (by rw [hx]; decide) (by rw [hx]; decide) (by decide) (sw_fg [false, true] rfl (k3 (by rw [hx]; decide)))
    by_cases h4 : i = 4
    · subst h4
      exact sw_tableIn (off := 91) dX9_forest_1 (by rw [hx]; decide) (by rw [hx]; decide) (by rw [hx]; decide) (by decide) (sw_fg [false, true] rfl (k4 (by rw [hx]; decide)))
    by_cases h5 : i = 5
    · subst h5
      exact sw_tableIn (off := 107) dX9_forest_1 (by rw [hx]; decide) (by rw [hx]; decide) (by rw [hx]; decide) (by decide) (sw_fg [false, true] rfl (k5 (by rw [hx]; decide)))
    by_cases h6 : i = 6
    · subst h6
      exact sw_tableIn (off := 122) dX9_forest_1 (by rw [hx]; decide) (by rw [hx]; decide) (by rw [hx]; decide) (by decide) (sw_fg [false, true] rfl (k6 (by rw [hx]; decide)))
    by_cases h7 : i = 7
    · subst h7
      exact sw_tableIn (off := 154) dX9_forest_1 (by rw [hx]; decide) (by rw [hx]; decide) (by rw [hx]; decide) (by decide) (sw_fg [false, true] rfl (k7 (by rw [hx]; decide)))
    by_cases h8 : i = 8
    · subst h8
      exact sw_tableIn (off := 162) dX9_forest_1 (by rw [hx]; decide) (by rw [hx]; decide) (by rw [hx]; decide) (by decide) (sw_fg [false, true] rfl (k8 (by rw [hx]; decide)))
    exact absurd hi (by omega)
theorem b_X9_forest_52 {r0 : Nat} {fs2 : List Value} {a2 : Nat} {fs3 : List Value} {x3 : Int32} (hc2 : (h)[r0]? = some (9, fs2)) (hv2 : fs2[2]? = some (.ref a2)) (hc3 : (h)[a2]? = some (3, fs3)) (hv3 : fs3[2]? = some (.int x3)) (hP : P (.inl (some (.int x3))) h) : SW sc m_X9_forest d rc rs 52 [some (.ref r0), none] [] h P := by
  refine sw_aload_n dX9_forest_52 rfl ?_
  refine sw_getf dX9_forest_53 lf_X9_26 hc2 hv2 ?_
  refine sw_getf dX9_forest_56 lf_X9_110 hc3 hv3 ?_
  exact sw_ret (v := (some (.int x3))) dX9_forest_59 rt_i hP
theorem b_X9_forest_60 {r0 : Nat} {fs2 : List Value} {a2 : Nat} {v3 : Int32} {g3 : ab_H} {fs3 : List Value} (hc2 : (h)[r0]? = some (9, fs2)) (hv2 : fs2[2]? = some (.ref a2)) (hr3 : (h)[a2]? = some (3, fs3)) (hm3 : MSE m_X3_edges d [.ref a2] h (some (.int v3)) g3) (hP : P (.inl (some (.int v3))) g3) : SW sc m_X9_forest (d + 1) rc rs 60 [some (.ref r0), none] [] h P := by
  refine sw_aload_n dX9_forest_60 rfl ?_
  refine sw_getf dX9_forest_61 lf_X9_26 hc2 hv2 ?_
  refine sw_cV dX9_forest_64 lv_X9_107 hm3 hr3 rfl (by decide) rfl rfl rfl (Nat.le_of_ble_eq_true rfl) (fun _ _ => rfl) rfl ?_
  show SW sc m_X9_forest _ _ _ 67 [some (.ref r0), none] [.int v3] g3 P
  exact sw_ret (v := (some (.int v3))) dX9_forest_67 rt_i hP
theorem b_X9_forest_68 {r0 : Nat} {fs2 : List Value} {a2 : Nat} {v3 : Int32} {g3 : ab_H} {fs3 : List Value} (hc2 : (h)[r0]? = some (9, fs2)) (hv2 : fs2[2]? = some (.ref a2)) (hr3 : (h)[a2]? = some (3, fs3)) (hm3 : MSE m_X3_components d [.ref a2] h (some (.int v3)) g3) (hP : P (.inl (some (.int v3))) g3) : SW sc m_X9_forest (d + 1) rc rs 68 [some (.ref r0), none] [] h P := by
  refine sw_aload_n dX9_forest_68 rfl ?_
  refine sw_getf dX9_forest_69 lf_X9_26 hc2 hv2 ?_
  refine sw_cV dX9_forest_72 lv_X9_113 hm3 hr3 rfl (by decide) rfl rfl rfl (Nat.le_of_ble_eq_true rfl) (fun _ _ => rfl) rfl ?_
  show SW sc m_X9_forest _ _ _ 75 [some (.ref r0), none] [.int v3] g3 P
  exact sw_ret (v := (some (.int v3))) dX9_forest_75 rt_i hP
theorem b_X9_forest_76 {r0 : Nat} {fs2 : List Value} {a2 : Nat} {fs4 : List Value} {a4 : Nat} {v5 : Int32} {g5 : ab_H} {fs5 : List Value} {v7 : Int32} {g7 : ab_H} {fs7 : List Value} (hc2 : (h)[r0]? = some (9, fs2)) (hv2 : fs2[2]? = some (.ref a2)) (hc4 : (h)[r0]? = some (9, fs4)) (hv4 : fs4[2]? = some (.ref a4)) (hr5 : (h)[a4]? = some (3, fs5)) (hm5 : MSE m_X3_all d [.ref a4] h (some (.int v5)) g5) (hr7 : (g5)[a2]? = some (3, fs7)) (hm7 : MSE m_X3_countOfDegree d [.ref a2, .int v5, .int 1] g5 (some (.int v7)) g7) (hP : P (.inl (some (.int v7))) g7) : SW sc m_X9_forest (d + 1) rc rs 76 [some (.ref r0), none] [] h P := by
  refine sw_aload_n dX9_forest_76 rfl ?_
  refine sw_getf dX9_forest_77 lf_X9_26 hc2 hv2 ?_
  refine sw_aload_n dX9_forest_80 rfl ?_
  refine sw_getf dX9_forest_81 lf_X9_26 hc4 hv4 ?_
  refine sw_cV dX9_forest_84 lv_X9_116 hm5 hr5 rfl (by decide) rfl rfl rfl (Nat.le_of_ble_eq_true rfl) (fun _ _ => rfl) rfl ?_
  show SW sc m_X9_forest _ _ _ 87 [some (.ref r0), none] [.int v5, .ref a2] g5 P
  refine sw_iconst (v := 1) dX9_forest_87 (by decide) ?_
  refine sw_cV dX9_forest_88 lv_X9_119 hm7 hr7 rfl (by decide) rfl rfl rfl (Nat.le_of_ble_eq_true rfl) (fun _ _ => rfl) rfl ?_
  show SW sc m_X9_forest _ _ _ 91 [some (.ref r0), none] [.int v7] g7 P
  exact sw_ret (v := (some (.int v7))) dX9_forest_91 rt_i hP
theorem b_X9_forest_92 {r0 : Nat} {fs2 : List Value} {a2 : Nat} {fs4 : List Value} {a4 : Nat} {v5 : Int32} {g5 : ab_H} {fs5 : List Value} {v7 : Int32} {g7 : ab_H} {fs7 : List Value} (hc2 : (h)[r0]? = some (9, fs2)) (hv2 : fs2[2]? = some (.ref a2)) (hc4 : (h)[r0]? = some (9, fs4)) (hv4 : fs4[2]? = some (.ref a4)) (hr5 : (h)[a4]? = some (3, fs5)) (hm5 : MSE m_X3_all d [.ref a4] h (some (.int v5)) g5) (hr7 : (g5)[a2]? = some (3, fs7)) (hm7 : MSE m_X3_countOfDegree d [.ref a2, .int v5, .int 0] g5 (some (.int v7)) g7) (hP : P (.inl (some (.int v7))) g7) : SW sc m_X9_forest (d + 1) rc rs 92 [some (.ref r0), none] [] h P := by
  refine sw_aload_n dX9_forest_92 rfl ?_
  refine sw_getf dX9_forest_93 lf_X9_26 hc2 hv2 ?_
  refine sw_aload_n dX9_forest_96 rfl ?_
  refine sw_getf dX9_forest_97 lf_X9_26 hc4 hv4 ?_
  refine sw_cV dX9_forest_100 lv_X9_116 hm5 hr5 rfl (by decide) rfl rfl rfl (Nat.le_of_ble_eq_true rfl) (fun _ _ => rfl) rfl ?_
  show SW sc m_X9_forest _ _ _ 103 [some (.ref r0), none] [.int v5, .ref a2] g5 P
  refine sw_iconst (v := 0) dX9_forest_103 (by decide) ?_
  refine sw_cV dX9_forest_104 lv_X9_119 hm7 hr7 rfl (by decide) rfl rfl rfl (Nat.le_of_ble_eq_true rfl) (fun _ _ => rfl) rfl ?_
  show SW sc m_X9_forest _ _ _ 107 [some (.ref r0), none] [.int v7] g7 P
  exact sw_ret (v := (some (.int v7))) dX9_forest_107 rt_i hP
theorem b_X9_forest_108 {r0 : Nat} {fs2 : List Value} {a2 : Nat} {fs4 : List Value} {a4 : Nat} {v5 : Int32} {g5 : ab_H} {fs5 : List Value} {v6 : Int32} {g6 : ab_H} {fs6 : List Value} (hc2 : (h)[r0]? = some (9, fs2)) (hv2 : fs2[2]? = some (.ref a2)) (hc4 : (h)[r0]? = some (9, fs4)) (hv4 : fs4[2]? = some (.ref a4)) (hr5 : (h)[a4]? = some (3, fs5)) (hm5 : MSE m_X3_all d [.ref a4] h (some (.int v5)) g5) (hr6 : (g5)[a2]? = some (3, fs6)) (hm6 : MSE m_X3_weightOfSet d [.ref a2, .int v5] g5 (some (.int v6)) g6) (hP : P (.inl (some (.int v6))) g6) : SW sc m_X9_forest (d + 1) rc rs 108 [some (.ref r0), none] [] h P := by
  refine sw_aload_n dX9_forest_108 rfl ?_
  refine sw_getf dX9_forest_109 lf_X9_26 hc2 hv2 ?_
  refine sw_aload_n dX9_forest_112 rfl ?_
  refine sw_getf dX9_forest_113 lf_X9_26 hc4 hv4 ?_
  refine sw_cV dX9_forest_116 lv_X9_116 hm5 hr5 rfl (by decide) rfl rfl rfl (Nat.le_of_ble_eq_true rfl) (fun _ _ => rfl) rfl ?_
  show SW sc m_X9_forest _ _ _ 119 [some (.ref r0), none] [.int v5, .ref a2] g5 P
  refine sw_cV dX9_forest_119 lv_X9_123 hm6 hr6 rfl (by decide) rfl rfl rfl (Nat.le_of_ble_eq_true rfl) (fun _ _ => rfl) rfl ?_
  show SW sc m_X9_forest _ _ _ 122 [some (.ref r0), none] [.int v6] g6 P
  exact sw_ret (v := (some (.int v6))) dX9_forest_122 rt_i hP
theorem b_X9_forest_123 {r0 : Nat} {fs2 : List Value} {a2 : Nat} {fs4 : List Value} {a4 : Nat} {fs6 : List Value} {a6 : Nat} {v7 : Int32} {g7 : ab_H} {fs7 : List Value} {v10 : Int32} {g10 : ab_H} {fs10 : List Value} {fs13 : List Value} {a13 : Nat} {fs14 : List Value} {a14 : Nat} {fs15 : List Value} {x15 : Int32} (hc2 : (h)[r0]? = some (9, fs2)) (hv2 : fs2[5]? = some (.ref a2)) (hc4 : (h)[r0]? = some (9, fs4)) (hv4 : fs4[2]? = some (.ref a4)) (hc6 : (h)[r0]? = some (9, fs6)) (hv6 : fs6[2]? = some (.ref a6)) (hr7 : (h)[a6]? = some (3, fs7)) (hm7 : MSE m_X3_components d [.ref a6] h (some (.int v7)) g7) (hr10 : (g7)[a2]? = some (8, fs10)) (hm10 : MSE m_X8_classOf d [.ref a2, .ref a4, .int (v7 - 1)] g7 (some (.int v10)) g10) (hc13 : (g10)[r0]? = some (9, fs13)) (hv13 : fs13[5]? = some (.ref a13)) (hc14 : (g10)[a13]? = some (8, fs14)) (hv14 : fs14[5]? = some (.ref a14)) (hc15 : (g10)[a14]? = some (4, fs15)) (hv15 : fs15[1]? = some (.int x15)) (hP : P (.inl (some (.int x15))) g10) : SW sc m_X9_forest (d + 1) rc rs 123 [some (.ref r0), none] [] h P := by
  refine sw_aload_n dX9_forest_123 rfl ?_
  refine sw_getf dX9_forest_124 lf_X9_43 hc2 hv2 ?_
  refine sw_aload_n dX9_forest_127 rfl ?_
  refine sw_getf dX9_forest_128 lf_X9_26 hc4 hv4 ?_
  refine sw_aload_n dX9_forest_131 rfl ?_
  refine sw_getf dX9_forest_132 lf_X9_26 hc6 hv6 ?_
  refine sw_cV dX9_forest_135 lv_X9_113 hm7 hr7 rfl (by decide) rfl rfl rfl (Nat.le_of_ble_eq_true rfl) (fun _ _ => rfl) rfl ?_
  show SW sc m_X9_forest _ _ _ 138 [some (.ref r0), none] [.int v7, .ref a4, .ref a2] g7 P
  refine sw_iconst (v := 1) dX9_forest_138 (by decide) ?_
  refine sw_isub dX9_forest_139 ?_
  refine sw_cV dX9_forest_140 lv_X9_127 hm10 hr10 rfl (by decide) rfl rfl rfl (Nat.le_of_ble_eq_true rfl) (fun _ _ => rfl) rfl ?_
  show SW sc m_X9_forest _ _ _ 143 [some (.ref r0), none] [.int v10] g10 P
  refine sw_pop dX9_forest_143 (fun _ _ => rfl) ?_
  refine sw_aload_n dX9_forest_144 rfl ?_
  refine sw_getf dX9_forest_145 lf_X9_43 hc13 hv13 ?_
  refine sw_getf dX9_forest_148 lf_X9_131 hc14 hv14 ?_
  refine sw_getf dX9_forest_151 lf_X9_135 hc15 hv15 ?_
  exact sw_ret (v := (some (.int x15))) dX9_forest_154 rt_i hP
theorem b_X9_forest_155 {r0 : Nat} {fs2 : List Value} {a2 : Nat} {fs3 : List Value} {x3 : Int32} (hc2 : (h)[r0]? = some (9, fs2)) (hv2 : fs2[8]? = some (.ref a2)) (hc3 : (h)[a2]? = some (5, fs3)) (hv3 : fs3[4]? = some (.int x3)) (hP : P (.inl (some (.int x3))) h) : SW sc m_X9_forest d rc rs 155 [some (.ref r0), none] [] h P := by
  refine sw_aload_n dX9_forest_155 rfl ?_
  refine sw_getf dX9_forest_156 lf_X9_64 hc2 hv2 ?_
  refine sw_getf dX9_forest_159 lf_X9_140 hc3 hv3 ?_
  exact sw_ret (v := (some (.int x3))) dX9_forest_162 rt_i hP
theorem b_X9_forest_163 {r0 : Nat} {fs2 : List Value} {a2 : Nat} {fs3 : List Value} {x3 : Int32} (hc2 : (h)[r0]? = some (9, fs2)) (hv2 : fs2[8]? = some (.ref a2)) (hc3 : (h)[a2]? = some (5, fs3)) (hv3 : fs3[3]? = some (.int x3)) (hP : P (.inl (some (.int x3))) h) : SW sc m_X9_forest d rc rs 163 [some (.ref r0), none] [] h P := by
  refine sw_aload_n dX9_forest_163 rfl ?_
  refine sw_getf dX9_forest_164 lf_X9_64 hc2 hv2 ?_
  refine sw_getf dX9_forest_167 lf_X9_143 hc3 hv3 ?_
  exact sw_ret (v := (some (.int x3))) dX9_forest_170 rt_i hP
theorem b_X9_forest_171  (hP : P (.inl (some (.int (-1)))) h) : SW sc m_X9_forest d rc rs 171 [none, none] [] h P := by
  refine sw_iconst (v := (-1)) dX9_forest_171 (by decide) ?_
  exact sw_ret (v := (some (.int (-1)))) dX9_forest_172 rt_i hP
theorem b_X9_vertex_0 {r0 : Nat} {l1 : Int32} {l2 : Int32} {g3 : ab_H} {fs3 : List Value} (hr3 : (h)[r0]? = some (9, fs3)) (hm3 : MSE m_X9_needVertex d [.ref r0, .int l1] h none g3) (k0 : l2 = 0 → SW sc m_X9_vertex (d + 1) rc rs 52 [some (.ref r0), some (.int l1), none] [] g3 P) (k1 : l2 = 1 → SW sc m_X9_vertex (d + 1) rc rs 61 [some (.ref r0), some (.int l1), none] [] g3 P) (k2 : l2 = 2 → SW sc m_X9_vertex (d + 1) rc rs 70 [some (.ref r0), some (.int l1), none] [] g3 P) (k3 : l2 = 3 → SW sc m_X9_vertex (d + 1) rc rs 79 [some (.ref r0), some (.int l1), none] [] g3 P) (k4 : l2 = 4 → SW sc m_X9_vertex (d + 1) rc rs 91 [some (.ref r0), some (.int l1), none] [] g3 P) (k5 : l2 = 5 → SW sc m_X9_vertex (d + 1) rc rs 100 [some (.ref r0), some (.int l1), none] [] g3 P) (k6 : l2 = 6 → SW sc m_X9_vertex (d + 1) rc rs 106 [some (.ref r0), some (.int l1), none] [] g3 P) (k7 : l2 = 7 → SW sc m_X9_vertex (d + 1) rc rs 115 [some (.ref r0), some (.int l1), none] [] g3 P) (kd : (∀ i : Nat, i < 8 → ¬ l2 = Int32.ofNat i) → SW sc m_X9_vertex (d + 1) rc rs 128 [none, none, none] [] g3 P) : SW sc m_X9_vertex (d + 1) rc rs 0 [some (.ref r0), some (.int l1), some (.int l2)] [] h P := by
  refine sw_aload_n dX9_vertex_0 rfl ?_
  refine sw_iload_n dX9_vertex_1 rfl ?_
  refine sw_cV dX9_vertex_2 lv_X9_146 hm3 hr3 rfl (by decide) rfl rfl rfl (Nat.le_of_ble_eq_true rfl) (fun _ _ => rfl) rfl ?_
  show SW sc m_X9_vertex _ _ _ 5 [some (.ref r0), some (.int l1), some (.int l2)] [] g3 P
  refine sw_iload_n dX9_vertex_5 rfl ?_
  by_cases ho : (l2).toInt < 0 ∨ 7 < (l2).toInt
  · exact sw_tableOut dX9_vertex_6 ho (by decide) (sw_fg [true, true, true] rfl (kd (ab_swOut (n := 8) (by decide) ho)))
  · obtain ⟨i, hi, hx⟩ := ab_swIn (n := 8) (by decide) ho
    by_cases h0 : i = 0
    · subst h0
      exact sw_tableIn (off := 46) dX9_vertex_6 (by rw [hx]; decide) (by rw [hx]; decide) (by rw [hx]; decide) (by decide) (sw_fg [false, false, true] rfl (k0 (by rw [hx]; decide)))
    by_cases h1 : i = 1
    · subst h1
      exact sw_tableIn (off := 55) dX9_vertex_6 (by rw [hx]; decide) (by rw [hx]; decide) (by rw [hx]; decide) (by decide) (sw_fg [false, false, true] rfl (k1 (by rw [hx]; decide)))
    by_cases h2 : i = 2
    · subst h2
      exact sw_tableIn (off := 64) dX9_vertex_6 (by rw [hx]; decide) (by rw [hx]; decide) (by rw [hx]; decide) (by decide) (sw_fg [false, false, true] rfl (k2 (by rw [hx]; decide)))
    by_cases h3 : i = 3
    · subst h3
      exact sw_tableIn (off := 73) dX9_vertex_6 (by rw [hx]; decide) (by rw [hx]; decide) (by rw [hx]; decide) (by decide) (sw_fg [false, false, true] rfl (k3 (by rw [hx]; decide)))
    by_cases h4 : i = 4
    · subst h4
      exact sw_tableIn (off := 85) dX9_vertex_6 (by rw [hx]; decide) (by rw [hx]; decide) (by rw [hx]; decide) (by decide) (sw_fg [false, false, true] rfl (k4 (by rw [hx]; decide)))
    by_cases h5 : i = 5
    · subst h5
      exact sw_tableIn (off := 94) dX9_vertex_6 (by rw [hx]; decide) (by rw [hx]; decide) (by rw [hx]; decide) (by decide) (sw_fg [false, false, true] rfl (k5 (by rw [hx]; decide)))
    by_cases h6 : i = 6
    · subst h6
      exact sw_tableIn (off := 100) dX9_vertex_6 (by rw [hx]; decide) (by rw [hx]; decide) (by rw [hx]; decide) (by decide) (sw_fg [false, false, true] rfl (k6 (by rw [hx]; decide)))
    by_cases h7 : i = 7
    · subst h7
      exact sw_tableIn (off := 109) dX9_vertex_6 (by rw [hx]; decide) (by rw [hx]; decide) (by rw [hx]; decide) (by decide) (sw_fg [false, false, true] rfl (k7 (by rw [hx]; decide)))
    exact absurd hi (by omega)
theorem bx_X9_vertex_0_2 {r0 : Nat} {l1 : Int32} {l2 : Int32} {E : Nat} {g3 : ab_H} {fs3 : List Value} (hr3 : (h)[r0]? = some (9, fs3)) (hm3 : MSX m_X9_needVertex d [.ref r0, .int l1] h E g3) (hx : ST sc m_X9_vertex (d + 1) rc rs 2 [some (.ref r0), some (.int l1), some (.int l2)] g3 E P) : SW sc m_X9_vertex (d + 1) (rc + 1) (rs + 6) 0 [some (.ref r0), some (.int l1), some (.int l2)] [] h P := by
  refine sw_aload_n dX9_vertex_0 rfl ?_
  refine sw_iload_n dX9_vertex_1 rfl ?_
  exact sw_xV dX9_vertex_2 lv_X9_146 hm3 hr3 rfl (by decide) rfl rfl rfl (Nat.le_of_ble_eq_true rfl) (fun _ _ => rfl) rfl hx
theorem b_X9_vertex_52 {r0 : Nat} {l1 : Int32} {fs2 : List Value} {a2 : Nat} {v4 : Int32} {g4 : ab_H} {fs4 : List Value} (hc2 : (h)[r0]? = some (9, fs2)) (hv2 : fs2[2]? = some (.ref a2)) (hr4 : (h)[a2]? = some (3, fs4)) (hm4 : MSE m_X3_degree d [.ref a2, .int l1] h (some (.int v4)) g4) (hP : P (.inl (some (.int v4))) g4) : SW sc m_X9_vertex (d + 1) rc rs 52 [some (.ref r0), some (.int l1), none] [] h P := by
  refine sw_aload_n dX9_vertex_52 rfl ?_
  refine sw_getf dX9_vertex_53 lf_X9_26 hc2 hv2 ?_
  refine sw_iload_n dX9_vertex_56 rfl ?_
  refine sw_cV dX9_vertex_57 lv_X9_149 hm4 hr4 rfl (by decide) rfl rfl rfl (Nat.le_of_ble_eq_true rfl) (fun _ _ => rfl) rfl ?_
  show SW sc m_X9_vertex _ _ _ 60 [some (.ref r0), some (.int l1), none] [.int v4] g4 P
  exact sw_ret (v := (some (.int v4))) dX9_vertex_60 rt_i hP
theorem b_X9_vertex_61 {r0 : Nat} {l1 : Int32} {fs2 : List Value} {a2 : Nat} {v4 : Int32} {g4 : ab_H} {fs4 : List Value} (hc2 : (h)[r0]? = some (9, fs2)) (hv2 : fs2[2]? = some (.ref a2)) (hr4 : (h)[a2]? = some (3, fs4)) (hm4 : MSE m_X3_weightOf d [.ref a2, .int l1] h (some (.int v4)) g4) (hP : P (.inl (some (.int v4))) g4) : SW sc m_X9_vertex (d + 1) rc rs 61 [some (.ref r0), some (.int l1), none] [] h P := by
  refine sw_aload_n dX9_vertex_61 rfl ?_
  refine sw_getf dX9_vertex_62 lf_X9_26 hc2 hv2 ?_
  refine sw_iload_n dX9_vertex_65 rfl ?_
  refine sw_cV dX9_vertex_66 lv_X9_152 hm4 hr4 rfl (by decide) rfl rfl rfl (Nat.le_of_ble_eq_true rfl) (fun _ _ => rfl) rfl ?_
  show SW sc m_X9_vertex _ _ _ 69 [some (.ref r0), some (.int l1), none] [.int v4] g4 P
  exact sw_ret (v := (some (.int v4))) dX9_vertex_69 rt_i hP
theorem b_X9_vertex_70 {r0 : Nat} {l1 : Int32} {fs2 : List Value} {a2 : Nat} {v4 : Int32} {g4 : ab_H} {fs4 : List Value} (hc2 : (h)[r0]? = some (9, fs2)) (hv2 : fs2[2]? = some (.ref a2)) (hr4 : (h)[a2]? = some (3, fs4)) (hm4 : MSE m_X3_componentNumber d [.ref a2, .int l1] h (some (.int v4)) g4) (hP : P (.inl (some (.int v4))) g4) : SW sc m_X9_vertex (d + 1) rc rs 70 [some (.ref r0), some (.int l1), none] [] h P := by
  refine sw_aload_n dX9_vertex_70 rfl ?_
  refine sw_getf dX9_vertex_71 lf_X9_26 hc2 hv2 ?_
  refine sw_iload_n dX9_vertex_74 rfl ?_
  refine sw_cV dX9_vertex_75 lv_X9_155 hm4 hr4 rfl (by decide) rfl rfl rfl (Nat.le_of_ble_eq_true rfl) (fun _ _ => rfl) rfl ?_
  show SW sc m_X9_vertex _ _ _ 78 [some (.ref r0), some (.int l1), none] [.int v4] g4 P
  exact sw_ret (v := (some (.int v4))) dX9_vertex_78 rt_i hP
theorem b_X9_vertex_79 {r0 : Nat} {l1 : Int32} {fs2 : List Value} {a2 : Nat} {v4 : Int32} {g4 : ab_H} {fs4 : List Value} {v5 : Int32} {g5 : ab_H} (hc2 : (h)[r0]? = some (9, fs2)) (hv2 : fs2[2]? = some (.ref a2)) (hr4 : (h)[a2]? = some (3, fs4)) (hm4 : MSE m_X3_componentWith d [.ref a2, .int l1] h (some (.int v4)) g4) (hm5 : MSE m_J6_bitCount_0f7a4 d [.int v4] g4 (some (.int v5)) g5) (hP : P (.inl (some (.int v5))) g5) : SW sc m_X9_vertex (d + 1) rc rs 79 [some (.ref r0), some (.int l1), none] [] h P := by
  refine sw_aload_n dX9_vertex_79 rfl ?_
  refine sw_getf dX9_vertex_80 lf_X9_26 hc2 hv2 ?_
  refine sw_iload_n dX9_vertex_83 rfl ?_
  refine sw_cV dX9_vertex_84 lv_X9_158 hm4 hr4 rfl (by decide) rfl rfl rfl (Nat.le_of_ble_eq_true rfl) (fun _ _ => rfl) rfl ?_
  show SW sc m_X9_vertex _ _ _ 87 [some (.ref r0), some (.int l1), none] [.int v4] g4 P
  refine sw_cS dX9_vertex_87 ls_X9_161 hm5 rfl rfl (Nat.le_of_ble_eq_true rfl) (fun _ _ => rfl) rfl ?_
  show SW sc m_X9_vertex _ _ _ 90 [some (.ref r0), some (.int l1), none] [.int v5] g5 P
  exact sw_ret (v := (some (.int v5))) dX9_vertex_90 rt_i hP
theorem b_X9_vertex_91 {r0 : Nat} {l1 : Int32} {fs2 : List Value} {a2 : Nat} {v4 : Int32} {g4 : ab_H} {fs4 : List Value} (hc2 : (h)[r0]? = some (9, fs2)) (hv2 : fs2[2]? = some (.ref a2)) (hr4 : (h)[a2]? = some (3, fs4)) (hm4 : MSE m_X3_eccentricity d [.ref a2, .int l1] h (some (.int v4)) g4) (hP : P (.inl (some (.int v4))) g4) : SW sc m_X9_vertex (d + 1) rc rs 91 [some (.ref r0), some (.int l1), none] [] h P := by
  refine sw_aload_n dX9_vertex_91 rfl ?_
  refine sw_getf dX9_vertex_92 lf_X9_26 hc2 hv2 ?_
  refine sw_iload_n dX9_vertex_95 rfl ?_
  refine sw_cV dX9_vertex_96 lv_X9_166 hm4 hr4 rfl (by decide) rfl rfl rfl (Nat.le_of_ble_eq_true rfl) (fun _ _ => rfl) rfl ?_
  show SW sc m_X9_vertex _ _ _ 99 [some (.ref r0), some (.int l1), none] [.int v4] g4 P
  exact sw_ret (v := (some (.int v4))) dX9_vertex_99 rt_i hP
theorem b_X9_vertex_100 {r0 : Nat} {l1 : Int32} {v3 : Int32} {g3 : ab_H} {fs3 : List Value} (hr3 : (h)[r0]? = some (9, fs3)) (hm3 : MSE m_X9_roundOf d [.ref r0, .int l1] h (some (.int v3)) g3) (hP : P (.inl (some (.int v3))) g3) : SW sc m_X9_vertex (d + 1) rc rs 100 [some (.ref r0), some (.int l1), none] [] h P := by
  refine sw_aload_n dX9_vertex_100 rfl ?_
  refine sw_iload_n dX9_vertex_101 rfl ?_
  refine sw_cV dX9_vertex_102 lv_X9_169 hm3 hr3 rfl (by decide) rfl rfl rfl (Nat.le_of_ble_eq_true rfl) (fun _ _ => rfl) rfl ?_
  show SW sc m_X9_vertex _ _ _ 105 [some (.ref r0), some (.int l1), none] [.int v3] g3 P
  exact sw_ret (v := (some (.int v3))) dX9_vertex_105 rt_i hP
theorem b_X9_vertex_106 {r0 : Nat} {l1 : Int32} {fs2 : List Value} {a2 : Nat} {v4 : Int32} {g4 : ab_H} {fs4 : List Value} (hc2 : (h)[r0]? = some (9, fs2)) (hv2 : fs2[2]? = some (.ref a2)) (hr4 : (h)[a2]? = some (3, fs4)) (hm4 : MSE m_X3_nearOf d [.ref a2, .int l1] h (some (.int v4)) g4) (hP : P (.inl (some (.int v4))) g4) : SW sc m_X9_vertex (d + 1) rc rs 106 [some (.ref r0), some (.int l1), none] [] h P := by
  refine sw_aload_n dX9_vertex_106 rfl ?_
  refine sw_getf dX9_vertex_107 lf_X9_26 hc2 hv2 ?_
  refine sw_iload_n dX9_vertex_110 rfl ?_
  refine sw_cV dX9_vertex_111 lv_X9_172 hm4 hr4 rfl (by decide) rfl rfl rfl (Nat.le_of_ble_eq_true rfl) (fun _ _ => rfl) rfl ?_
  show SW sc m_X9_vertex _ _ _ 114 [some (.ref r0), some (.int l1), none] [.int v4] g4 P
  exact sw_ret (v := (some (.int v4))) dX9_vertex_114 rt_i hP
theorem b_X9_vertex_115 {r0 : Nat} {l1 : Int32} {fs2 : List Value} {a2 : Nat} {fs4 : List Value} {a4 : Nat} {v6 : Int32} {g6 : ab_H} {fs6 : List Value} (hc2 : (h)[r0]? = some (9, fs2)) (hv2 : fs2[5]? = some (.ref a2)) (hc4 : (h)[r0]? = some (9, fs4)) (hv4 : fs4[2]? = some (.ref a4)) (hr6 : (h)[a2]? = some (8, fs6)) (hm6 : MSE m_X8_orbitOf d [.ref a2, .ref a4, .int l1] h (some (.int v6)) g6) (hP : P (.inl (some (.int v6))) g6) : SW sc m_X9_vertex (d + 1) rc rs 115 [some (.ref r0), some (.int l1), none] [] h P := by
  refine sw_aload_n dX9_vertex_115 rfl ?_
  refine sw_getf dX9_vertex_116 lf_X9_43 hc2 hv2 ?_
  refine sw_aload_n dX9_vertex_119 rfl ?_
  refine sw_getf dX9_vertex_120 lf_X9_26 hc4 hv4 ?_
  refine sw_iload_n dX9_vertex_123 rfl ?_
  refine sw_cV dX9_vertex_124 lv_X9_175 hm6 hr6 rfl (by decide) rfl rfl rfl (Nat.le_of_ble_eq_true rfl) (fun _ _ => rfl) rfl ?_
  show SW sc m_X9_vertex _ _ _ 127 [some (.ref r0), some (.int l1), none] [.int v6] g6 P
  exact sw_ret (v := (some (.int v6))) dX9_vertex_127 rt_i hP
theorem b_X9_vertex_128  (hP : P (.inr 2) h) : SW sc m_X9_vertex d (rc + 1) (rs + 6) 128 [none, none, none] [] h P := by
  exact sw_throw dX9_vertex_128 dX9_vertex_131 dX9_vertex_132 dX9_vertex_134 dX9_vertex_137 lt_X9_2 sr_X9_180 (Nat.le_of_ble_eq_true rfl) (fun _ _ => rfl) (st_out rfl hP)
theorem b_X9_component_0 {r0 : Nat} {l1 : Int32} {l2 : Int32} {v3 : Int32} {g3 : ab_H} {fs3 : List Value} (hr3 : (h)[r0]? = some (9, fs3)) (hm3 : MSE m_X9_neededComponent d [.ref r0, .int l1] h (some (.int v3)) g3) (k0 : l2 = 0 → SW sc m_X9_component (d + 1) rc rs 48 [none, none, none, some (.int v3)] [] g3 P) (k1 : l2 = 1 → SW sc m_X9_component (d + 1) rc rs 50 [some (.ref r0), none, none, some (.int v3)] [] g3 P) (k2 : l2 = 2 → SW sc m_X9_component (d + 1) rc rs 59 [some (.ref r0), none, none, some (.int v3)] [] g3 P) (k3 : l2 = 3 → SW sc m_X9_component (d + 1) rc rs 69 [some (.ref r0), none, none, some (.int v3)] [] g3 P) (k4 : l2 = 4 → SW sc m_X9_component (d + 1) rc rs 79 [some (.ref r0), none, none, some (.int v3)] [] g3 P) (k5 : l2 = 5 → SW sc m_X9_component (d + 1) rc rs 89 [some (.ref r0), some (.int l1), none, none] [] g3 P) (k6 : l2 = 6 → SW sc m_X9_component (d + 1) rc rs 102 [some (.ref r0), none, none, some (.int v3)] [] g3 P) (kd : (∀ i : Nat, i < 7 → ¬ l2 = Int32.ofNat i) → SW sc m_X9_component (d + 1) rc rs 112 [none, none, none, none] [] g3 P) : SW sc m_X9_component (d + 1) rc rs 0 [some (.ref r0), some (.int l1), some (.int l2), none] [] h P := by
  refine sw_aload_n dX9_component_0 rfl ?_
  refine sw_iload_n dX9_component_1 rfl ?_
  refine sw_cV dX9_component_2 lv_X9_185 hm3 hr3 rfl (by decide) rfl rfl rfl (Nat.le_of_ble_eq_true rfl) (fun _ _ => rfl) rfl ?_
  show SW sc m_X9_component _ _ _ 5 [some (.ref r0), some (.int l1), some (.int l2), none] [.int v3] g3 P
  refine sw_istore_n dX9_component_5 (by decide) rfl ?_
  show SW sc m_X9_component _ _ _ 6 [some (.ref r0), some (.int l1), some (.int l2), some (.int v3)] [] g3 P
  refine sw_iload_n dX9_component_6 rfl ?_
  by_cases ho : (l2).toInt < 0 ∨ 6 < (l2).toInt
  · exact sw_tableOut dX9_component_7 ho (by decide) (sw_fg [true, true, true, true] rfl (kd (ab_swOut (n := 7) (by decide) ho)))
  · obtain ⟨i, hi, hx⟩ := ab_swIn (n := 7) (by decide) ho
    by_cases h0 : i = 0
    · subst h0
      exact sw_tableIn (off := 41) dX9_component_7 (by rw [hx]; decide) (by rw [hx]; decide) (by rw [hx]; decide) (by decide) (sw_fg [true, true, true, false] rfl (k0 (by rw [hx]; decide)))
    by_cases h1 : i = 1
    · subst h1
      exact sw_tableIn (off := 43) dX9_component_7 (by rw [hx]; decide) (by rw [hx]; decide) (by rw [hx]; decide) (by decide) (sw_fg [false, true, true, false] rfl (k1 (by rw [hx]; decide)))
    by_cases h2 : i = 2
    · subst h2
      exact sw_tableIn (off := 52) dX9_component_7 (by rw [hx]; decide) (by rw [hx]; decide) (by rw [hx]; decide) (by decide) (sw_fg [false, true, true, false] rfl (k2 (by rw [hx]; decide)))
    by_cases h3 : i = 3
    · subst h3
      exact sw_tableIn (off := 62) dX9_component_7 (by rw [hx]; decide) (by rw [hx]; decide) (by rw [hx]; decide) (by decide) (sw_fg [false, true, true, false] rfl (k3 (by rw [hx]; decide)))
    by_cases h4 : i = 4
    · subst h4
      exact sw_tableIn (off := 72) dX9_component_7 (by rw [hx]; decide) (by rw [hx]; decide) (by rw [hx]; decide) (by decide) (sw_fg [false, true, true, false] rfl (k4 (by rw [hx]; decide)))
    by_cases h5 : i = 5
    · subst h5
      exact sw_tableIn (off := 82) dX9_component_7 (by rw [hx]; decide) (by rw [hx]; decide) (by rw [hx]; decide) (by decide) (sw_fg [false, false, true, true] rfl (k5 (by rw [hx]; decide)))
    by_cases h6 : i = 6
    · subst h6
      exact sw_tableIn (off := 95) dX9_component_7 (by rw [hx]; decide) (by rw [hx]; decide) (by rw [hx]; decide) (by decide) (sw_fg [false, true, true, false] rfl (k6 (by rw [hx]; decide)))
    exact absurd hi (by omega)
theorem bx_X9_component_0_2 {r0 : Nat} {l1 : Int32} {l2 : Int32} {E : Nat} {g3 : ab_H} {fs3 : List Value} (hr3 : (h)[r0]? = some (9, fs3)) (hm3 : MSX m_X9_neededComponent d [.ref r0, .int l1] h E g3) (hx : ST sc m_X9_component (d + 1) rc rs 2 [some (.ref r0), some (.int l1), some (.int l2), none] g3 E P) : SW sc m_X9_component (d + 1) (rc + 1) (rs + 6) 0 [some (.ref r0), some (.int l1), some (.int l2), none] [] h P := by
  refine sw_aload_n dX9_component_0 rfl ?_
  refine sw_iload_n dX9_component_1 rfl ?_
  exact sw_xV dX9_component_2 lv_X9_185 hm3 hr3 rfl (by decide) rfl rfl rfl (Nat.le_of_ble_eq_true rfl) (fun _ _ => rfl) rfl hx
theorem b_X9_component_48 {l3 : Int32} (hP : P (.inl (some (.int l3))) h) : SW sc m_X9_component d rc rs 48 [none, none, none, some (.int l3)] [] h P := by
  refine sw_iload_n dX9_component_48 rfl ?_
  exact sw_ret (v := (some (.int l3))) dX9_component_49 rt_i hP
theorem b_X9_component_50 {r0 : Nat} {l3 : Int32} {fs2 : List Value} {a2 : Nat} {v4 : Int32} {g4 : ab_H} {fs4 : List Value} (hc2 : (h)[r0]? = some (9, fs2)) (hv2 : fs2[2]? = some (.ref a2)) (hr4 : (h)[a2]? = some (3, fs4)) (hm4 : MSE m_X3_diameter d [.ref a2, .int l3] h (some (.int v4)) g4) (hP : P (.inl (some (.int v4))) g4) : SW sc m_X9_component (d + 1) rc rs 50 [some (.ref r0), none, none, some (.int l3)] [] h P := by
  refine sw_aload_n dX9_component_50 rfl ?_
  refine sw_getf dX9_component_51 lf_X9_26 hc2 hv2 ?_
  refine sw_iload_n dX9_component_54 rfl ?_
  refine sw_cV dX9_component_55 lv_X9_188 hm4 hr4 rfl (by decide) rfl rfl rfl (Nat.le_of_ble_eq_true rfl) (fun _ _ => rfl) rfl ?_
  show SW sc m_X9_component _ _ _ 58 [some (.ref r0), none, none, some (.int l3)] [.int v4] g4 P
  exact sw_ret (v := (some (.int v4))) dX9_component_58 rt_i hP
theorem b_X9_component_59 {r0 : Nat} {l3 : Int32} {fs2 : List Value} {a2 : Nat} {v5 : Int32} {g5 : ab_H} {fs5 : List Value} (hc2 : (h)[r0]? = some (9, fs2)) (hv2 : fs2[2]? = some (.ref a2)) (hr5 : (h)[a2]? = some (3, fs5)) (hm5 : MSE m_X3_leastBy d [.ref a2, .int l3, .int 0] h (some (.int v5)) g5) (hP : P (.inl (some (.int v5))) g5) : SW sc m_X9_component (d + 1) rc rs 59 [some (.ref r0), none, none, some (.int l3)] [] h P := by
  refine sw_aload_n dX9_component_59 rfl ?_
  refine sw_getf dX9_component_60 lf_X9_26 hc2 hv2 ?_
  refine sw_iload_n dX9_component_63 rfl ?_
  refine sw_iconst (v := 0) dX9_component_64 (by decide) ?_
  refine sw_cV dX9_component_65 lv_X9_191 hm5 hr5 rfl (by decide) rfl rfl rfl (Nat.le_of_ble_eq_true rfl) (fun _ _ => rfl) rfl ?_
  show SW sc m_X9_component _ _ _ 68 [some (.ref r0), none, none, some (.int l3)] [.int v5] g5 P
  exact sw_ret (v := (some (.int v5))) dX9_component_68 rt_i hP
theorem b_X9_component_69 {r0 : Nat} {l3 : Int32} {fs2 : List Value} {a2 : Nat} {v5 : Int32} {g5 : ab_H} {fs5 : List Value} (hc2 : (h)[r0]? = some (9, fs2)) (hv2 : fs2[2]? = some (.ref a2)) (hr5 : (h)[a2]? = some (3, fs5)) (hm5 : MSE m_X3_leastBy d [.ref a2, .int l3, .int 1] h (some (.int v5)) g5) (hP : P (.inl (some (.int v5))) g5) : SW sc m_X9_component (d + 1) rc rs 69 [some (.ref r0), none, none, some (.int l3)] [] h P := by
  refine sw_aload_n dX9_component_69 rfl ?_
  refine sw_getf dX9_component_70 lf_X9_26 hc2 hv2 ?_
  refine sw_iload_n dX9_component_73 rfl ?_
  refine sw_iconst (v := 1) dX9_component_74 (by decide) ?_
  refine sw_cV dX9_component_75 lv_X9_191 hm5 hr5 rfl (by decide) rfl rfl rfl (Nat.le_of_ble_eq_true rfl) (fun _ _ => rfl) rfl ?_
  show SW sc m_X9_component _ _ _ 78 [some (.ref r0), none, none, some (.int l3)] [.int v5] g5 P
  exact sw_ret (v := (some (.int v5))) dX9_component_78 rt_i hP
theorem b_X9_component_79 {r0 : Nat} {l3 : Int32} {fs2 : List Value} {a2 : Nat} {v5 : Int32} {g5 : ab_H} {fs5 : List Value} (hc2 : (h)[r0]? = some (9, fs2)) (hv2 : fs2[2]? = some (.ref a2)) (hr5 : (h)[a2]? = some (3, fs5)) (hm5 : MSE m_X3_leastBy d [.ref a2, .int l3, .int 2] h (some (.int v5)) g5) (hP : P (.inl (some (.int v5))) g5) : SW sc m_X9_component (d + 1) rc rs 79 [some (.ref r0), none, none, some (.int l3)] [] h P := by
  refine sw_aload_n dX9_component_79 rfl ?_
  refine sw_getf dX9_component_80 lf_X9_26 hc2 hv2 ?_
  refine sw_iload_n dX9_component_83 rfl ?_
  refine sw_iconst (v := 2) dX9_component_84 (by decide) ?_
  refine sw_cV dX9_component_85 lv_X9_191 hm5 hr5 rfl (by decide) rfl rfl rfl (Nat.le_of_ble_eq_true rfl) (fun _ _ => rfl) rfl ?_
  show SW sc m_X9_component _ _ _ 88 [some (.ref r0), none, none, some (.int l3)] [.int v5] g5 P
  exact sw_ret (v := (some (.int v5))) dX9_component_88 rt_i hP
theorem b_X9_component_89 {r0 : Nat} {l1 : Int32} {fs2 : List Value} {a2 : Nat} {fs4 : List Value} {a4 : Nat} {v6 : Int32} {g6 : ab_H} {fs6 : List Value} (hc2 : (h)[r0]? = some (9, fs2)) (hv2 : fs2[5]? = some (.ref a2)) (hc4 : (h)[r0]? = some (9, fs4)) (hv4 : fs4[2]? = some (.ref a4)) (hr6 : (h)[a2]? = some (8, fs6)) (hm6 : MSE m_X8_classOf d [.ref a2, .ref a4, .int l1] h (some (.int v6)) g6) (hP : P (.inl (some (.int v6))) g6) : SW sc m_X9_component (d + 1) rc rs 89 [some (.ref r0), some (.int l1), none, none] [] h P := by
  refine sw_aload_n dX9_component_89 rfl ?_
  refine sw_getf dX9_component_90 lf_X9_43 hc2 hv2 ?_
  refine sw_aload_n dX9_component_93 rfl ?_
  refine sw_getf dX9_component_94 lf_X9_26 hc4 hv4 ?_
  refine sw_iload_n dX9_component_97 rfl ?_
  refine sw_cV dX9_component_98 lv_X9_127 hm6 hr6 rfl (by decide) rfl rfl rfl (Nat.le_of_ble_eq_true rfl) (fun _ _ => rfl) rfl ?_
  show SW sc m_X9_component _ _ _ 101 [some (.ref r0), some (.int l1), none, none] [.int v6] g6 P
  exact sw_ret (v := (some (.int v6))) dX9_component_101 rt_i hP
theorem b_X9_component_102 {r0 : Nat} {l3 : Int32} {fs2 : List Value} {a2 : Nat} {v5 : Int32} {g5 : ab_H} {fs5 : List Value} (hc2 : (h)[r0]? = some (9, fs2)) (hv2 : fs2[2]? = some (.ref a2)) (hr5 : (h)[a2]? = some (3, fs5)) (hm5 : MSE m_X3_countOfDegree d [.ref a2, .int l3, .int 1] h (some (.int v5)) g5) (hP : P (.inl (some (.int v5))) g5) : SW sc m_X9_component (d + 1) rc rs 102 [some (.ref r0), none, none, some (.int l3)] [] h P := by
  refine sw_aload_n dX9_component_102 rfl ?_
  refine sw_getf dX9_component_103 lf_X9_26 hc2 hv2 ?_
  refine sw_iload_n dX9_component_106 rfl ?_
  refine sw_iconst (v := 1) dX9_component_107 (by decide) ?_
  refine sw_cV dX9_component_108 lv_X9_119 hm5 hr5 rfl (by decide) rfl rfl rfl (Nat.le_of_ble_eq_true rfl) (fun _ _ => rfl) rfl ?_
  show SW sc m_X9_component _ _ _ 111 [some (.ref r0), none, none, some (.int l3)] [.int v5] g5 P
  exact sw_ret (v := (some (.int v5))) dX9_component_111 rt_i hP
theorem b_X9_component_112  (hP : P (.inr 2) h) : SW sc m_X9_component d (rc + 1) (rs + 6) 112 [none, none, none, none] [] h P := by
  exact sw_throw dX9_component_112 dX9_component_115 dX9_component_116 dX9_component_118 dX9_component_121 lt_X9_2 sr_X9_194 (Nat.le_of_ble_eq_true rfl) (fun _ _ => rfl) (st_out rfl hP)
theorem b_X9_distance_0 {r0 : Nat} {l1 : Int32} {l2 : Int32} {g3 : ab_H} {fs3 : List Value} {g6 : ab_H} {fs6 : List Value} {fs8 : List Value} {a8 : Nat} {v11 : Int32} {g11 : ab_H} {fs11 : List Value} (hr3 : (h)[r0]? = some (9, fs3)) (hm3 : MSE m_X9_needVertex d [.ref r0, .int l1] h none g3) (hr6 : (g3)[r0]? = some (9, fs6)) (hm6 : MSE m_X9_needVertex d [.ref r0, .int l2] g3 none g6) (hc8 : (g6)[r0]? = some (9, fs8)) (hv8 : fs8[2]? = some (.ref a8)) (hr11 : (g6)[a8]? = some (3, fs11)) (hm11 : MSE m_X3_steps d [.ref a8, .int l1, .int l2] g6 (some (.int v11)) g11) (hP : P (.inl (some (.int v11))) g11) : SW sc m_X9_distance (d + 1) rc rs 0 [some (.ref r0), some (.int l1), some (.int l2)] [] h P := by
  refine sw_aload_n dX9_distance_0 rfl ?_
  refine sw_iload_n dX9_distance_1 rfl ?_
  refine sw_cV dX9_distance_2 lv_X9_146 hm3 hr3 rfl (by decide) rfl rfl rfl (Nat.le_of_ble_eq_true rfl) (fun _ _ => rfl) rfl ?_
  show SW sc m_X9_distance _ _ _ 5 [some (.ref r0), some (.int l1), some (.int l2)] [] g3 P
  refine sw_aload_n dX9_distance_5 rfl ?_
  refine sw_iload_n dX9_distance_6 rfl ?_
  refine sw_cV dX9_distance_7 lv_X9_146 hm6 hr6 rfl (by decide) rfl rfl rfl (Nat.le_of_ble_eq_true rfl) (fun _ _ => rfl) rfl ?_
  show SW sc m_X9_distance _ _ _ 10 [some (.ref r0), some (.int l1), some (.int l2)] [] g6 P
  refine sw_aload_n dX9_distance_10 rfl ?_
  refine sw_getf dX9_distance_11 lf_X9_26 hc8 hv8 ?_
  refine sw_iload_n dX9_distance_14 rfl ?_
  refine sw_iload_n dX9_distance_15 rfl ?_
  refine sw_cV dX9_distance_16 lv_X9_196 hm11 hr11 rfl (by decide) rfl rfl rfl (Nat.le_of_ble_eq_true rfl) (fun _ _ => rfl) rfl ?_
  show SW sc m_X9_distance _ _ _ 19 [some (.ref r0), some (.int l1), some (.int l2)] [.int v11] g11 P
  exact sw_ret (v := (some (.int v11))) dX9_distance_19 rt_i hP
theorem bx_X9_distance_0_2 {r0 : Nat} {l1 : Int32} {l2 : Int32} {E : Nat} {g3 : ab_H} {fs3 : List Value} (hr3 : (h)[r0]? = some (9, fs3)) (hm3 : MSX m_X9_needVertex d [.ref r0, .int l1] h E g3) (hx : ST sc m_X9_distance (d + 1) rc rs 2 [some (.ref r0), some (.int l1), some (.int l2)] g3 E P) : SW sc m_X9_distance (d + 1) (rc + 1) (rs + 6) 0 [some (.ref r0), some (.int l1), some (.int l2)] [] h P := by
  refine sw_aload_n dX9_distance_0 rfl ?_
  refine sw_iload_n dX9_distance_1 rfl ?_
  exact sw_xV dX9_distance_2 lv_X9_146 hm3 hr3 rfl (by decide) rfl rfl rfl (Nat.le_of_ble_eq_true rfl) (fun _ _ => rfl) rfl hx
theorem bx_X9_distance_0_7 {r0 : Nat} {l1 : Int32} {l2 : Int32} {g3 : ab_H} {fs3 : List Value} {E : Nat} {g6 : ab_H} {fs6 : List Value} (hr3 : (h)[r0]? = some (9, fs3)) (hm3 : MSE m_X9_needVertex d [.ref r0, .int l1] h none g3) (hr6 : (g3)[r0]? = some (9, fs6)) (hm6 : MSX m_X9_needVertex d [.ref r0, .int l2] g3 E g6) (hx : ST sc m_X9_distance (d + 1) rc rs 7 [some (.ref r0), some (.int l1), some (.int l2)] g6 E P) : SW sc m_X9_distance (d + 1) (rc + 1) (rs + 6) 0 [some (.ref r0), some (.int l1), some (.int l2)] [] h P := by
  refine sw_aload_n dX9_distance_0 rfl ?_
  refine sw_iload_n dX9_distance_1 rfl ?_
  refine sw_cV dX9_distance_2 lv_X9_146 hm3 hr3 rfl (by decide) rfl rfl rfl (Nat.le_of_ble_eq_true rfl) (fun _ _ => rfl) rfl ?_
  show SW sc m_X9_distance _ _ _ 5 [some (.ref r0), some (.int l1), some (.int l2)] [] g3 P
  refine sw_aload_n dX9_distance_5 rfl ?_
  refine sw_iload_n dX9_distance_6 rfl ?_
  exact sw_xV dX9_distance_7 lv_X9_146 hm6 hr6 rfl (by decide) rfl rfl rfl (Nat.le_of_ble_eq_true rfl) (fun _ _ => rfl) rfl hx
theorem b_X9_onPath_0 {r0 : Nat} {l1 : Int32} {l2 : Int32} {l3 : Int32} {g3 : ab_H} {fs3 : List Value} {g6 : ab_H} {fs6 : List Value} {fs8 : List Value} {a8 : Nat} {v12 : Int32} {g12 : ab_H} {fs12 : List Value} (hr3 : (h)[r0]? = some (9, fs3)) (hm3 : MSE m_X9_needVertex d [.ref r0, .int l1] h none g3) (hr6 : (g3)[r0]? = some (9, fs6)) (hm6 : MSE m_X9_needVertex d [.ref r0, .int l2] g3 none g6) (hc8 : (g6)[r0]? = some (9, fs8)) (hv8 : fs8[2]? = some (.ref a8)) (hr12 : (g6)[a8]? = some (3, fs12)) (hm12 : MSE m_X3_pathVertex d [.ref a8, .int l1, .int l2, .int l3] g6 (some (.int v12)) g12) (kt : ¬ v12 = (-1) → SW sc m_X9_onPath (d + 1) rc rs 38 [none, none, none, none, some (.int v12)] [] g12 P) (kf : v12 = (-1) → SW sc m_X9_onPath (d + 1) rc rs 28 [none, none, none, none, none] [] g12 P) : SW sc m_X9_onPath (d + 1) rc rs 0 [some (.ref r0), some (.int l1), some (.int l2), some (.int l3), none] [] h P := by
  refine sw_aload_n dX9_onPath_0 rfl ?_
  refine sw_iload_n dX9_onPath_1 rfl ?_
  refine sw_cV dX9_onPath_2 lv_X9_146 hm3 hr3 rfl (by decide) rfl rfl rfl (Nat.le_of_ble_eq_true rfl) (fun _ _ => rfl) rfl ?_
  show SW sc m_X9_onPath _ _ _ 5 [some (.ref r0), some (.int l1), some (.int l2), some (.int l3), none] [] g3 P
  refine sw_aload_n dX9_onPath_5 rfl ?_
  refine sw_iload_n dX9_onPath_6 rfl ?_
  refine sw_cV dX9_onPath_7 lv_X9_146 hm6 hr6 rfl (by decide) rfl rfl rfl (Nat.le_of_ble_eq_true rfl) (fun _ _ => rfl) rfl ?_
  show SW sc m_X9_onPath _ _ _ 10 [some (.ref r0), some (.int l1), some (.int l2), some (.int l3), none] [] g6 P
  refine sw_aload_n dX9_onPath_10 rfl ?_
  refine sw_getf dX9_onPath_11 lf_X9_26 hc8 hv8 ?_
  refine sw_iload_n dX9_onPath_14 rfl ?_
  refine sw_iload_n dX9_onPath_15 rfl ?_
  refine sw_iload_n dX9_onPath_16 rfl ?_
  refine sw_cV dX9_onPath_17 lv_X9_199 hm12 hr12 rfl (by decide) rfl rfl rfl (Nat.le_of_ble_eq_true rfl) (fun _ _ => rfl) rfl ?_
  show SW sc m_X9_onPath _ _ _ 20 [some (.ref r0), some (.int l1), some (.int l2), some (.int l3), none] [.int v12] g12 P
  refine sw_istore dX9_onPath_20 (by decide) rfl ?_
  show SW sc m_X9_onPath _ _ _ 22 [some (.ref r0), some (.int l1), some (.int l2), some (.int l3), some (.int v12)] [] g12 P
  refine sw_iload dX9_onPath_22 rfl ?_
  refine sw_iconst (v := (-1)) dX9_onPath_24 (by decide) ?_
  exact sw_icmp_ne dX9_onPath_25 (by decide) (fun q => (sw_fg [true, true, true, true, false] rfl (kt q))) (fun q => (sw_fg [true, true, true, true, true] rfl (kf q)))
theorem bx_X9_onPath_0_2 {r0 : Nat} {l1 : Int32} {l2 : Int32} {l3 : Int32} {E : Nat} {g3 : ab_H} {fs3 : List Value} (hr3 : (h)[r0]? = some (9, fs3)) (hm3 : MSX m_X9_needVertex d [.ref r0, .int l1] h E g3) (hx : ST sc m_X9_onPath (d + 1) rc rs 2 [some (.ref r0), some (.int l1), some (.int l2), some (.int l3), none] g3 E P) : SW sc m_X9_onPath (d + 1) (rc + 1) (rs + 6) 0 [some (.ref r0), some (.int l1), some (.int l2), some (.int l3), none] [] h P := by
  refine sw_aload_n dX9_onPath_0 rfl ?_
  refine sw_iload_n dX9_onPath_1 rfl ?_
  exact sw_xV dX9_onPath_2 lv_X9_146 hm3 hr3 rfl (by decide) rfl rfl rfl (Nat.le_of_ble_eq_true rfl) (fun _ _ => rfl) rfl hx
theorem bx_X9_onPath_0_7 {r0 : Nat} {l1 : Int32} {l2 : Int32} {l3 : Int32} {g3 : ab_H} {fs3 : List Value} {E : Nat} {g6 : ab_H} {fs6 : List Value} (hr3 : (h)[r0]? = some (9, fs3)) (hm3 : MSE m_X9_needVertex d [.ref r0, .int l1] h none g3) (hr6 : (g3)[r0]? = some (9, fs6)) (hm6 : MSX m_X9_needVertex d [.ref r0, .int l2] g3 E g6) (hx : ST sc m_X9_onPath (d + 1) rc rs 7 [some (.ref r0), some (.int l1), some (.int l2), some (.int l3), none] g6 E P) : SW sc m_X9_onPath (d + 1) (rc + 1) (rs + 6) 0 [some (.ref r0), some (.int l1), some (.int l2), some (.int l3), none] [] h P := by
  refine sw_aload_n dX9_onPath_0 rfl ?_
  refine sw_iload_n dX9_onPath_1 rfl ?_
  refine sw_cV dX9_onPath_2 lv_X9_146 hm3 hr3 rfl (by decide) rfl rfl rfl (Nat.le_of_ble_eq_true rfl) (fun _ _ => rfl) rfl ?_
  show SW sc m_X9_onPath _ _ _ 5 [some (.ref r0), some (.int l1), some (.int l2), some (.int l3), none] [] g3 P
  refine sw_aload_n dX9_onPath_5 rfl ?_
  refine sw_iload_n dX9_onPath_6 rfl ?_
  exact sw_xV dX9_onPath_7 lv_X9_146 hm6 hr6 rfl (by decide) rfl rfl rfl (Nat.le_of_ble_eq_true rfl) (fun _ _ => rfl) rfl hx
theorem b_X9_onPath_28  (hP : P (.inr 4) h) : SW sc m_X9_onPath d (rc + 1) (rs + 6) 28 [none, none, none, none, none] [] h P := by
  exact sw_throwN dX9_onPath_28 dX9_onPath_31 dX9_onPath_32 dX9_onPath_34 dX9_onPath_37 lt_X9_4 sr_X9_205 (Nat.le_of_ble_eq_true rfl) (fun _ _ => rfl) (st_out rfl hP)
theorem b_X9_onPath_38 {l4 : Int32} (hP : P (.inl (some (.int l4))) h) : SW sc m_X9_onPath d rc rs 38 [none, none, none, none, some (.int l4)] [] h P := by
  refine sw_iload dX9_onPath_38 rfl ?_
  exact sw_ret (v := (some (.int l4))) dX9_onPath_40 rt_i hP
theorem b_X9_median_0 {r0 : Nat} {l1 : Int32} {l2 : Int32} {l3 : Int32} {g3 : ab_H} {fs3 : List Value} {g6 : ab_H} {fs6 : List Value} {g9 : ab_H} {fs9 : List Value} {fs11 : List Value} {a11 : Nat} {v14 : Int32} {g14 : ab_H} {fs14 : List Value} {fs16 : List Value} {a16 : Nat} {v19 : Int32} {g19 : ab_H} {fs19 : List Value} {fs22 : List Value} {a22 : Nat} {v25 : Int32} {g25 : ab_H} {fs25 : List Value} (hr3 : (h)[r0]? = some (9, fs3)) (hm3 : MSE m_X9_needVertex d [.ref r0, .int l1] h none g3) (hr6 : (g3)[r0]? = some (9, fs6)) (hm6 : MSE m_X9_needVertex d [.ref r0, .int l2] g3 none g6) (hr9 : (g6)[r0]? = some (9, fs9)) (hm9 : MSE m_X9_needVertex d [.ref r0, .int l3] g6 none g9) (hc11 : (g9)[r0]? = some (9, fs11)) (hv11 : fs11[2]? = some (.ref a11)) (hr14 : (g9)[a11]? = some (3, fs14)) (hm14 : MSE m_X3_pathSet d [.ref a11, .int l1, .int l2] g9 (some (.int v14)) g14) (hc16 : (g14)[r0]? = some (9, fs16)) (hv16 : fs16[2]? = some (.ref a16)) (hr19 : (g14)[a16]? = some (3, fs19)) (hm19 : MSE m_X3_pathSet d [.ref a16, .int l2, .int l3] g14 (some (.int v19)) g19) (hc22 : (g19)[r0]? = some (9, fs22)) (hv22 : fs22[2]? = some (.ref a22)) (hr25 : (g19)[a22]? = some (3, fs25)) (hm25 : MSE m_X3_pathSet d [.ref a22, .int l1, .int l3] g19 (some (.int v25)) g25) (kt : ¬ ((v14 &&& v19) &&& v25) = 0 → SW sc m_X9_median (d + 1) rc rs 61 [none, none, none, none, some (.int ((v14 &&& v19) &&& v25))] [] g25 P) (kf : ((v14 &&& v19) &&& v25) = 0 → SW sc m_X9_median (d + 1) rc rs 51 [none, none, none, none, none] [] g25 P) : SW sc m_X9_median (d + 1) rc rs 0 [some (.ref r0), some (.int l1), some (.int l2), some (.int l3), none] [] h P := by
  refine sw_aload_n dX9_median_0 rfl ?_
  refine sw_iload_n dX9_median_1 rfl ?_
  refine sw_cV dX9_median_2 lv_X9_146 hm3 hr3 rfl (by decide) rfl rfl rfl (Nat.le_of_ble_eq_true rfl) (fun _ _ => rfl) rfl ?_
  show SW sc m_X9_median _ _ _ 5 [some (.ref r0), some (.int l1), some (.int l2), some (.int l3), none] [] g3 P
  refine sw_aload_n dX9_median_5 rfl ?_
  refine sw_iload_n dX9_median_6 rfl ?_
  refine sw_cV dX9_median_7 lv_X9_146 hm6 hr6 rfl (by decide) rfl rfl rfl (Nat.le_of_ble_eq_true rfl) (fun _ _ => rfl) rfl ?_
  show SW sc m_X9_median _ _ _ 10 [some (.ref r0), some (.int l1), some (.int l2), some (.int l3), none] [] g6 P
  refine sw_aload_n dX9_median_10 rfl ?_
  refine sw_iload_n dX9_median_11 rfl ?_
  refine sw_cV dX9_median_12 lv_X9_146 hm9 hr9 rfl (by decide) rfl rfl rfl (Nat.le_of_ble_eq_true rfl) (fun _ _ => rfl) rfl ?_
  show SW sc m_X9_median _ _ _ 15 [some (.ref r0), some (.int l1), some (.int l2), some (.int l3), none] [] g9 P
  refine sw_aload_n dX9_median_15 rfl ?_
  refine sw_getf dX9_median_16 lf_X9_26 hc11 hv11 ?_
  refine sw_iload_n dX9_median_19 rfl ?_
  refine sw_iload_n dX9_median_20 rfl ?_
  refine sw_cV dX9_median_21 lv_X9_208 hm14 hr14 rfl (by decide) rfl rfl rfl (Nat.le_of_ble_eq_true rfl) (fun _ _ => rfl) rfl ?_
  show SW sc m_X9_median _ _ _ 24 [some (.ref r0), some (.int l1), some (.int l2), some (.int l3), none] [.int v14] g14 P
  refine sw_aload_n dX9_median_24 rfl ?_
  refine sw_getf dX9_median_25 lf_X9_26 hc16 hv16 ?_
  refine sw_iload_n dX9_median_28 rfl ?_
  refine sw_iload_n dX9_median_29 rfl ?_
  refine sw_cV dX9_median_30 lv_X9_208 hm19 hr19 rfl (by decide) rfl rfl rfl (Nat.le_of_ble_eq_true rfl) (fun _ _ => rfl) rfl ?_
  show SW sc m_X9_median _ _ _ 33 [some (.ref r0), some (.int l1), some (.int l2), some (.int l3), none] [.int v19, .int v14] g19 P
  refine sw_iand dX9_median_33 ?_
  refine sw_aload_n dX9_median_34 rfl ?_
  refine sw_getf dX9_median_35 lf_X9_26 hc22 hv22 ?_
  refine sw_iload_n dX9_median_38 rfl ?_
  refine sw_iload_n dX9_median_39 rfl ?_
  refine sw_cV dX9_median_40 lv_X9_208 hm25 hr25 rfl (by decide) rfl rfl rfl (Nat.le_of_ble_eq_true rfl) (fun _ _ => rfl) rfl ?_
  show SW sc m_X9_median _ _ _ 43 [some (.ref r0), some (.int l1), some (.int l2), some (.int l3), none] [.int v25, .int (v14 &&& v19)] g25 P
  refine sw_iand dX9_median_43 ?_
  refine sw_istore dX9_median_44 (by decide) rfl ?_
  show SW sc m_X9_median _ _ _ 46 [some (.ref r0), some (.int l1), some (.int l2), some (.int l3), some (.int ((v14 &&& v19) &&& v25))] [] g25 P
  refine sw_iload dX9_median_46 rfl ?_
  exact sw_if_ne dX9_median_48 (by decide) (fun q => (sw_fg [true, true, true, true, false] rfl (kt q))) (fun q => (sw_fg [true, true, true, true, true] rfl (kf q)))
theorem bx_X9_median_0_2 {r0 : Nat} {l1 : Int32} {l2 : Int32} {l3 : Int32} {E : Nat} {g3 : ab_H} {fs3 : List Value} (hr3 : (h)[r0]? = some (9, fs3)) (hm3 : MSX m_X9_needVertex d [.ref r0, .int l1] h E g3) (hx : ST sc m_X9_median (d + 1) rc rs 2 [some (.ref r0), some (.int l1), some (.int l2), some (.int l3), none] g3 E P) : SW sc m_X9_median (d + 1) (rc + 1) (rs + 6) 0 [some (.ref r0), some (.int l1), some (.int l2), some (.int l3), none] [] h P := by
  refine sw_aload_n dX9_median_0 rfl ?_
  refine sw_iload_n dX9_median_1 rfl ?_
  exact sw_xV dX9_median_2 lv_X9_146 hm3 hr3 rfl (by decide) rfl rfl rfl (Nat.le_of_ble_eq_true rfl) (fun _ _ => rfl) rfl hx
theorem bx_X9_median_0_7 {r0 : Nat} {l1 : Int32} {l2 : Int32} {l3 : Int32} {g3 : ab_H} {fs3 : List Value} {E : Nat} {g6 : ab_H} {fs6 : List Value} (hr3 : (h)[r0]? = some (9, fs3)) (hm3 : MSE m_X9_needVertex d [.ref r0, .int l1] h none g3) (hr6 : (g3)[r0]? = some (9, fs6)) (hm6 : MSX m_X9_needVertex d [.ref r0, .int l2] g3 E g6) (hx : ST sc m_X9_median (d + 1) rc rs 7 [some (.ref r0), some (.int l1), some (.int l2), some (.int l3), none] g6 E P) : SW sc m_X9_median (d + 1) (rc + 1) (rs + 6) 0 [some (.ref r0), some (.int l1), some (.int l2), some (.int l3), none] [] h P := by
  refine sw_aload_n dX9_median_0 rfl ?_
  refine sw_iload_n dX9_median_1 rfl ?_
  refine sw_cV dX9_median_2 lv_X9_146 hm3 hr3 rfl (by decide) rfl rfl rfl (Nat.le_of_ble_eq_true rfl) (fun _ _ => rfl) rfl ?_
  show SW sc m_X9_median _ _ _ 5 [some (.ref r0), some (.int l1), some (.int l2), some (.int l3), none] [] g3 P
  refine sw_aload_n dX9_median_5 rfl ?_
  refine sw_iload_n dX9_median_6 rfl ?_
  exact sw_xV dX9_median_7 lv_X9_146 hm6 hr6 rfl (by decide) rfl rfl rfl (Nat.le_of_ble_eq_true rfl) (fun _ _ => rfl) rfl hx
theorem bx_X9_median_0_12 {r0 : Nat} {l1 : Int32} {l2 : Int32} {l3 : Int32} {g3 : ab_H} {fs3 : List Value} {g6 : ab_H} {fs6 : List Value} {E : Nat} {g9 : ab_H} {fs9 : List Value} (hr3 : (h)[r0]? = some (9, fs3)) (hm3 : MSE m_X9_needVertex d [.ref r0, .int l1] h none g3) (hr6 : (g3)[r0]? = some (9, fs6)) (hm6 : MSE m_X9_needVertex d [.ref r0, .int l2] g3 none g6) (hr9 : (g6)[r0]? = some (9, fs9)) (hm9 : MSX m_X9_needVertex d [.ref r0, .int l3] g6 E g9) (hx : ST sc m_X9_median (d + 1) rc rs 12 [some (.ref r0), some (.int l1), some (.int l2), some (.int l3), none] g9 E P) : SW sc m_X9_median (d + 1) (rc + 1) (rs + 6) 0 [some (.ref r0), some (.int l1), some (.int l2), some (.int l3), none] [] h P := by
  refine sw_aload_n dX9_median_0 rfl ?_
  refine sw_iload_n dX9_median_1 rfl ?_
  refine sw_cV dX9_median_2 lv_X9_146 hm3 hr3 rfl (by decide) rfl rfl rfl (Nat.le_of_ble_eq_true rfl) (fun _ _ => rfl) rfl ?_
  show SW sc m_X9_median _ _ _ 5 [some (.ref r0), some (.int l1), some (.int l2), some (.int l3), none] [] g3 P
  refine sw_aload_n dX9_median_5 rfl ?_
  refine sw_iload_n dX9_median_6 rfl ?_
  refine sw_cV dX9_median_7 lv_X9_146 hm6 hr6 rfl (by decide) rfl rfl rfl (Nat.le_of_ble_eq_true rfl) (fun _ _ => rfl) rfl ?_
  show SW sc m_X9_median _ _ _ 10 [some (.ref r0), some (.int l1), some (.int l2), some (.int l3), none] [] g6 P
  refine sw_aload_n dX9_median_10 rfl ?_
  refine sw_iload_n dX9_median_11 rfl ?_
  exact sw_xV dX9_median_12 lv_X9_146 hm9 hr9 rfl (by decide) rfl rfl rfl (Nat.le_of_ble_eq_true rfl) (fun _ _ => rfl) rfl hx
theorem b_X9_median_51  (hP : P (.inr 4) h) : SW sc m_X9_median d (rc + 1) (rs + 6) 51 [none, none, none, none, none] [] h P := by
  exact sw_throwN dX9_median_51 dX9_median_54 dX9_median_55 dX9_median_57 dX9_median_60 lt_X9_4 sr_X9_211 (Nat.le_of_ble_eq_true rfl) (fun _ _ => rfl) (st_out rfl hP)
theorem b_X9_median_61 {l4 : Int32} {v2 : Int32} {g2 : ab_H} (hm2 : MSE m_X9_lowest d [.int l4] h (some (.int v2)) g2) (hP : P (.inl (some (.int v2))) g2) : SW sc m_X9_median (d + 1) rc rs 61 [none, none, none, none, some (.int l4)] [] h P := by
  refine sw_iload dX9_median_61 rfl ?_
  refine sw_cS dX9_median_63 ls_X9_213 hm2 rfl rfl (Nat.le_of_ble_eq_true rfl) (fun _ _ => rfl) rfl ?_
  show SW sc m_X9_median _ _ _ 66 [none, none, none, none, some (.int l4)] [.int v2] g2 P
  exact sw_ret (v := (some (.int v2))) dX9_median_66 rt_i hP
theorem b_X9_meanDistance_0 {r0 : Nat} {l1 : Int32} {g3 : ab_H} {fs3 : List Value} {fs5 : List Value} {a5 : Nat} {v7 : Int32} {g7 : ab_H} {fs7 : List Value} (hr3 : (h)[r0]? = some (9, fs3)) (hm3 : MSE m_X9_needVertex d [.ref r0, .int l1] h none g3) (hc5 : (g3)[r0]? = some (9, fs5)) (hv5 : fs5[2]? = some (.ref a5)) (hr7 : (g3)[a5]? = some (3, fs7)) (hm7 : MSE m_X3_componentWith d [.ref a5, .int l1] g3 (some (.int v7)) g7) (k : SW sc m_X9_meanDistance (d + 1) rc rs 19 [some (.ref r0), some (.int l1), some (.int v7), some (.int 0), some (.int 0)] [] g7 P) : SW sc m_X9_meanDistance (d + 1) rc rs 0 [some (.ref r0), some (.int l1), none, none, none] [] h P := by
  refine sw_aload_n dX9_meanDistance_0 rfl ?_
  refine sw_iload_n dX9_meanDistance_1 rfl ?_
  refine sw_cV dX9_meanDistance_2 lv_X9_146 hm3 hr3 rfl (by decide) rfl rfl rfl (Nat.le_of_ble_eq_true rfl) (fun _ _ => rfl) rfl ?_
  show SW sc m_X9_meanDistance _ _ _ 5 [some (.ref r0), some (.int l1), none, none, none] [] g3 P
  refine sw_aload_n dX9_meanDistance_5 rfl ?_
  refine sw_getf dX9_meanDistance_6 lf_X9_26 hc5 hv5 ?_
  refine sw_iload_n dX9_meanDistance_9 rfl ?_
  refine sw_cV dX9_meanDistance_10 lv_X9_158 hm7 hr7 rfl (by decide) rfl rfl rfl (Nat.le_of_ble_eq_true rfl) (fun _ _ => rfl) rfl ?_
  show SW sc m_X9_meanDistance _ _ _ 13 [some (.ref r0), some (.int l1), none, none, none] [.int v7] g7 P
  refine sw_istore_n dX9_meanDistance_13 (by decide) rfl ?_
  show SW sc m_X9_meanDistance _ _ _ 14 [some (.ref r0), some (.int l1), some (.int v7), none, none] [] g7 P
  refine sw_iconst (v := 0) dX9_meanDistance_14 (by decide) ?_
  refine sw_istore_n dX9_meanDistance_15 (by decide) rfl ?_
  show SW sc m_X9_meanDistance _ _ _ 16 [some (.ref r0), some (.int l1), some (.int v7), some (.int 0), none] [] g7 P
  refine sw_iconst (v := 0) dX9_meanDistance_16 (by decide) ?_
  refine sw_istore dX9_meanDistance_17 (by decide) rfl ?_
  show SW sc m_X9_meanDistance _ _ _ 19 [some (.ref r0), some (.int l1), some (.int v7), some (.int 0), some (.int 0)] [] g7 P
  exact (k)
theorem bx_X9_meanDistance_0_2 {r0 : Nat} {l1 : Int32} {E : Nat} {g3 : ab_H} {fs3 : List Value} (hr3 : (h)[r0]? = some (9, fs3)) (hm3 : MSX m_X9_needVertex d [.ref r0, .int l1] h E g3) (hx : ST sc m_X9_meanDistance (d + 1) rc rs 2 [some (.ref r0), some (.int l1), none, none, none] g3 E P) : SW sc m_X9_meanDistance (d + 1) (rc + 1) (rs + 6) 0 [some (.ref r0), some (.int l1), none, none, none] [] h P := by
  refine sw_aload_n dX9_meanDistance_0 rfl ?_
  refine sw_iload_n dX9_meanDistance_1 rfl ?_
  exact sw_xV dX9_meanDistance_2 lv_X9_146 hm3 hr3 rfl (by decide) rfl rfl rfl (Nat.le_of_ble_eq_true rfl) (fun _ _ => rfl) rfl hx
theorem b_X9_meanDistance_19 {r0 : Nat} {l1 : Int32} {l2 : Int32} {l3 : Int32} {l4 : Int32} {fs3 : List Value} {a3 : Nat} {fs4 : List Value} {x4 : Int32} (hc3 : (h)[r0]? = some (9, fs3)) (hv3 : fs3[2]? = some (.ref a3)) (hc4 : (h)[a3]? = some (3, fs4)) (hv4 : fs4[2]? = some (.int x4)) (kt : x4 ≤ l4 → SW sc m_X9_meanDistance d rc rs 59 [none, none, some (.int l2), some (.int l3), none] [] h P) (kf : ¬ (x4 ≤ l4) → SW sc m_X9_meanDistance d rc rs 31 [some (.ref r0), some (.int l1), some (.int l2), some (.int l3), some (.int l4)] [] h P) : SW sc m_X9_meanDistance d rc rs 19 [some (.ref r0), some (.int l1), some (.int l2), some (.int l3), some (.int l4)] [] h P := by
  refine sw_iload dX9_meanDistance_19 rfl ?_
  refine sw_aload_n dX9_meanDistance_21 rfl ?_
  refine sw_getf dX9_meanDistance_22 lf_X9_26 hc3 hv3 ?_
  refine sw_getf dX9_meanDistance_25 lf_X9_110 hc4 hv4 ?_
  exact sw_icmp_ge dX9_meanDistance_28 (by decide) (fun q => (sw_fg [true, true, false, false, true] rfl (kt q))) (fun q => (kf q))
theorem b_X9_meanDistance_31 {r0 : Nat} {l1 : Int32} {l2 : Int32} {l3 : Int32} {l4 : Int32} {v3 : Int32} {g3 : ab_H} (hm3 : MSE m_X9_holds d [.int l2, .int l4] h (some (.int v3)) g3) (kt : v3 = 0 → SW sc m_X9_meanDistance (d + 1) rc rs 53 [some (.ref r0), some (.int l1), some (.int l2), some (.int l3), some (.int l4)] [] g3 P) (kf : ¬ (v3 = 0) → SW sc m_X9_meanDistance (d + 1) rc rs 40 [some (.ref r0), some (.int l1), some (.int l2), some (.int l3), some (.int l4)] [] g3 P) : SW sc m_X9_meanDistance (d + 1) rc rs 31 [some (.ref r0), some (.int l1), some (.int l2), some (.int l3), some (.int l4)] [] h P := by
  refine sw_iload_n dX9_meanDistance_31 rfl ?_
  refine sw_iload dX9_meanDistance_32 rfl ?_
  refine sw_cS dX9_meanDistance_34 ls_X9_216 hm3 rfl rfl (Nat.le_of_ble_eq_true rfl) (fun _ _ => rfl) rfl ?_
  show SW sc m_X9_meanDistance _ _ _ 37 [some (.ref r0), some (.int l1), some (.int l2), some (.int l3), some (.int l4)] [.int v3] g3 P
  exact sw_if_eq dX9_meanDistance_37 (by decide) (fun q => (kt q)) (fun q => (kf q))
theorem b_X9_meanDistance_40 {r0 : Nat} {l1 : Int32} {l2 : Int32} {l3 : Int32} {l4 : Int32} {fs3 : List Value} {a3 : Nat} {v6 : Int32} {g6 : ab_H} {fs6 : List Value} (hc3 : (h)[r0]? = some (9, fs3)) (hv3 : fs3[2]? = some (.ref a3)) (hr6 : (h)[a3]? = some (3, fs6)) (hm6 : MSE m_X3_steps d [.ref a3, .int l1, .int l4] h (some (.int v6)) g6) (k : SW sc m_X9_meanDistance (d + 1) rc rs 53 [some (.ref r0), some (.int l1), some (.int l2), some (.int (l3 + v6)), some (.int l4)] [] g6 P) : SW sc m_X9_meanDistance (d + 1) rc rs 40 [some (.ref r0), some (.int l1), some (.int l2), some (.int l3), some (.int l4)] [] h P := by
  refine sw_iload_n dX9_meanDistance_40 rfl ?_
  refine sw_aload_n dX9_meanDistance_41 rfl ?_
  refine sw_getf dX9_meanDistance_42 lf_X9_26 hc3 hv3 ?_
  refine sw_iload_n dX9_meanDistance_45 rfl ?_
  refine sw_iload dX9_meanDistance_46 rfl ?_
  refine sw_cV dX9_meanDistance_48 lv_X9_196 hm6 hr6 rfl (by decide) rfl rfl rfl (Nat.le_of_ble_eq_true rfl) (fun _ _ => rfl) rfl ?_
  show SW sc m_X9_meanDistance _ _ _ 51 [some (.ref r0), some (.int l1), some (.int l2), some (.int l3), some (.int l4)] [.int v6, .int l3] g6 P
  refine sw_iadd dX9_meanDistance_51 ?_
  refine sw_istore_n dX9_meanDistance_52 (by decide) rfl ?_
  show SW sc m_X9_meanDistance _ _ _ 53 [some (.ref r0), some (.int l1), some (.int l2), some (.int (l3 + v6)), some (.int l4)] [] g6 P
  exact (k)
theorem b_X9_meanDistance_53 {r0 : Nat} {l1 : Int32} {l2 : Int32} {l3 : Int32} {l4 : Int32} (k : SW sc m_X9_meanDistance d rc rs 19 [some (.ref r0), some (.int l1), some (.int l2), some (.int l3), some (.int (l4 + 1))] [] h P) : SW sc m_X9_meanDistance d rc rs 53 [some (.ref r0), some (.int l1), some (.int l2), some (.int l3), some (.int l4)] [] h P := by
  refine sw_iinc (v := l4 + 1) dX9_meanDistance_53 rfl rfl (by decide) rfl ?_
  show SW sc m_X9_meanDistance _ _ _ 56 [some (.ref r0), some (.int l1), some (.int l2), some (.int l3), some (.int (l4 + 1))] [] h P
  exact sw_goto dX9_meanDistance_56 (by decide) (k)
theorem b_X9_meanDistance_59 {l2 : Int32} {l3 : Int32} {v2 : Int32} {g2 : ab_H} (hm2 : MSE m_J6_bitCount_0f7a4 d [.int l2] h (some (.int v2)) g2) (kt : ¬ v2 = 0 → SW sc m_X9_meanDistance (d + 1) rc rs 74 [none, none, none, some (.int l3), some (.int v2)] [] g2 P) (kf : v2 = 0 → SW sc m_X9_meanDistance (d + 1) rc rs 70 [none, none, none, none, none] [] g2 P) : SW sc m_X9_meanDistance (d + 1) rc rs 59 [none, none, some (.int l2), some (.int l3), none] [] h P := by
  refine sw_iload_n dX9_meanDistance_59 rfl ?_
  refine sw_cS dX9_meanDistance_60 ls_X9_161 hm2 rfl rfl (Nat.le_of_ble_eq_true rfl) (fun _ _ => rfl) rfl ?_
  show SW sc m_X9_meanDistance _ _ _ 63 [none, none, some (.int l2), some (.int l3), none] [.int v2] g2 P
  refine sw_istore dX9_meanDistance_63 (by decide) rfl ?_
  show SW sc m_X9_meanDistance _ _ _ 65 [none, none, some (.int l2), some (.int l3), some (.int v2)] [] g2 P
  refine sw_iload dX9_meanDistance_65 rfl ?_
  exact sw_if_ne dX9_meanDistance_67 (by decide) (fun q => (sw_fg [false, false, true, false, false] rfl (kt q))) (fun q => (sw_fg [false, false, true, true, true] rfl (kf q)))
theorem b_X9_meanDistance_70  (k : SW sc m_X9_meanDistance d rc rs 80 [none, none, none, none, none] [.double 0] h P) : SW sc m_X9_meanDistance d rc rs 70 [none, none, none, none, none] [] h P := by
  refine sw_dconst0 dX9_meanDistance_70 ?_
  exact sw_goto dX9_meanDistance_71 (by decide) (k)
theorem b_X9_meanDistance_74 {l3 : Int32} {l4 : Int32} (hz5 : vf_n64 (FP.ddiv (FP.i2d l3) (FP.i2d l4))) (k : SW sc m_X9_meanDistance d rc rs 80 [none, none, none, none, none] [.double (FP.ddiv (FP.i2d l3) (FP.i2d l4))] h P) : SW sc m_X9_meanDistance d rc rs 74 [none, none, none, some (.int l3), some (.int l4)] [] h P := by
  refine sw_iload_n dX9_meanDistance_74 rfl ?_
  refine sw_i2d dX9_meanDistance_75 ?_
  refine sw_iload dX9_meanDistance_76 rfl ?_
  refine sw_i2d dX9_meanDistance_78 ?_
  refine sw_ddiv dX9_meanDistance_79 hz5 ?_
  exact (sw_fg [false, false, false, true, true] rfl (k))
theorem b_X9_meanDistance_80 {s0 : UInt64} (hP : P (.inl (some (.double s0))) h) : SW sc m_X9_meanDistance d rc rs 80 [none, none, none, none, none] [.double s0] h P := by
  exact sw_ret (v := (some (.double s0))) dX9_meanDistance_80 rt_d hP
theorem b_X9_balance_0 {r0 : Nat} {l1 : Int32} {g3 : ab_H} {fs3 : List Value} {fs5 : List Value} {a5 : Nat} {v7 : Int32} {g7 : ab_H} {fs7 : List Value} {v8 : Int32} {g8 : ab_H} (hr3 : (h)[r0]? = some (9, fs3)) (hm3 : MSE m_X9_needVertex d [.ref r0, .int l1] h none g3) (hc5 : (g3)[r0]? = some (9, fs5)) (hv5 : fs5[2]? = some (.ref a5)) (hr7 : (g3)[a5]? = some (3, fs7)) (hm7 : MSE m_X3_componentWith d [.ref a5, .int l1] g3 (some (.int v7)) g7) (hm8 : MSE m_J6_bitCount_0f7a4 d [.int v7] g7 (some (.int v8)) g8) (kt : ¬ v8 = 0 → SW sc m_X9_balance (d + 1) rc rs 25 [some (.ref r0), some (.int l1), some (.int v8)] [] g8 P) (kf : v8 = 0 → SW sc m_X9_balance (d + 1) rc rs 21 [none, none, none] [] g8 P) : SW sc m_X9_balance (d + 1) rc rs 0 [some (.ref r0), some (.int l1), none] [] h P := by
  refine sw_aload_n dX9_balance_0 rfl ?_
  refine sw_iload_n dX9_balance_1 rfl ?_
  refine sw_cV dX9_balance_2 lv_X9_146 hm3 hr3 rfl (by decide) rfl rfl rfl (Nat.le_of_ble_eq_true rfl) (fun _ _ => rfl) rfl ?_
  show SW sc m_X9_balance _ _ _ 5 [some (.ref r0), some (.int l1), none] [] g3 P
  refine sw_aload_n dX9_balance_5 rfl ?_
  refine sw_getf dX9_balance_6 lf_X9_26 hc5 hv5 ?_
  refine sw_iload_n dX9_balance_9 rfl ?_
  refine sw_cV dX9_balance_10 lv_X9_158 hm7 hr7 rfl (by decide) rfl rfl rfl (Nat.le_of_ble_eq_true rfl) (fun _ _ => rfl) rfl ?_
  show SW sc m_X9_balance _ _ _ 13 [some (.ref r0), some (.int l1), none] [.int v7] g7 P
  refine sw_cS dX9_balance_13 ls_X9_161 hm8 rfl rfl (Nat.le_of_ble_eq_true rfl) (fun _ _ => rfl) rfl ?_
  show SW sc m_X9_balance _ _ _ 16 [some (.ref r0), some (.int l1), none] [.int v8] g8 P
  refine sw_istore_n dX9_balance_16 (by decide) rfl ?_
  show SW sc m_X9_balance _ _ _ 17 [some (.ref r0), some (.int l1), some (.int v8)] [] g8 P
  refine sw_iload_n dX9_balance_17 rfl ?_
  exact sw_if_ne dX9_balance_18 (by decide) (fun q => (kt q)) (fun q => (sw_fg [true, true, true] rfl (kf q)))
theorem bx_X9_balance_0_2 {r0 : Nat} {l1 : Int32} {E : Nat} {g3 : ab_H} {fs3 : List Value} (hr3 : (h)[r0]? = some (9, fs3)) (hm3 : MSX m_X9_needVertex d [.ref r0, .int l1] h E g3) (hx : ST sc m_X9_balance (d + 1) rc rs 2 [some (.ref r0), some (.int l1), none] g3 E P) : SW sc m_X9_balance (d + 1) (rc + 1) (rs + 6) 0 [some (.ref r0), some (.int l1), none] [] h P := by
  refine sw_aload_n dX9_balance_0 rfl ?_
  refine sw_iload_n dX9_balance_1 rfl ?_
  exact sw_xV dX9_balance_2 lv_X9_146 hm3 hr3 rfl (by decide) rfl rfl rfl (Nat.le_of_ble_eq_true rfl) (fun _ _ => rfl) rfl hx
theorem b_X9_balance_21  (k : SW sc m_X9_balance d rc rs 38 [none, none, none] [.float 0] h P) : SW sc m_X9_balance d rc rs 21 [none, none, none] [] h P := by
  refine sw_fconst0 dX9_balance_21 ?_
  exact sw_goto dX9_balance_22 (by decide) (k)
theorem b_X9_balance_25 {r0 : Nat} {l1 : Int32} {l2 : Int32} {fs2 : List Value} {a2 : Nat} {v5 : Int32} {g5 : ab_H} {fs5 : List Value} (hc2 : (h)[r0]? = some (9, fs2)) (hv2 : fs2[2]? = some (.ref a2)) (hr5 : (h)[a2]? = some (3, fs5)) (hm5 : MSE m_X3_greatestPart d [.ref a2, .int l1, .int 0] h (some (.int v5)) g5) (hz9 : vf_n32 (FP.fdiv (FP.i2f v5) (FP.i2f l2))) (k : SW sc m_X9_balance (d + 1) rc rs 38 [none, none, none] [.float (FP.fdiv (FP.i2f v5) (FP.i2f l2))] g5 P) : SW sc m_X9_balance (d + 1) rc rs 25 [some (.ref r0), some (.int l1), some (.int l2)] [] h P := by
  refine sw_aload_n dX9_balance_25 rfl ?_
  refine sw_getf dX9_balance_26 lf_X9_26 hc2 hv2 ?_
  refine sw_iload_n dX9_balance_29 rfl ?_
  refine sw_iconst (v := 0) dX9_balance_30 (by decide) ?_
  refine sw_cV dX9_balance_31 lv_X9_220 hm5 hr5 rfl (by decide) rfl rfl rfl (Nat.le_of_ble_eq_true rfl) (fun _ _ => rfl) rfl ?_
  show SW sc m_X9_balance _ _ _ 34 [some (.ref r0), some (.int l1), some (.int l2)] [.int v5] g5 P
  refine sw_i2f dX9_balance_34 ?_
  refine sw_iload_n dX9_balance_35 rfl ?_
  refine sw_i2f dX9_balance_36 ?_
  refine sw_fdiv dX9_balance_37 hz9 ?_
  exact (sw_fg [true, true, true] rfl (k))
theorem b_X9_balance_38 {s0 : UInt32} (hP : P (.inl (some (.float s0))) h) : SW sc m_X9_balance d rc rs 38 [none, none, none] [.float s0] h P := by
  exact sw_ret (v := (some (.float s0))) dX9_balance_38 rt_f hP
theorem b_X9_code_0 {r0 : Nat} {l1 : Int32} {g2 : ab_H} {fs2 : List Value} (hr2 : (h)[r0]? = some (9, fs2)) (hm2 : MSE m_X9_needTree d [.ref r0] h none g2) (kt : l1 < 0 → SW sc m_X9_code (d + 1) rc rs 22 [none, none] [] g2 P) (kf : ¬ (l1 < 0) → SW sc m_X9_code (d + 1) rc rs 8 [some (.ref r0), some (.int l1)] [] g2 P) : SW sc m_X9_code (d + 1) rc rs 0 [some (.ref r0), some (.int l1)] [] h P := by
  refine sw_aload_n dX9_code_0 rfl ?_
  refine sw_cV dX9_code_1 lv_X9_224 hm2 hr2 rfl (by decide) rfl rfl rfl (Nat.le_of_ble_eq_true rfl) (fun _ _ => rfl) rfl ?_
  show SW sc m_X9_code _ _ _ 4 [some (.ref r0), some (.int l1)] [] g2 P
  refine sw_iload_n dX9_code_4 rfl ?_
  exact sw_if_lt dX9_code_5 (by decide) (fun q => (sw_fg [true, true] rfl (kt q))) (fun q => (kf q))
theorem bx_X9_code_0_1 {r0 : Nat} {l1 : Int32} {E : Nat} {g2 : ab_H} {fs2 : List Value} (hr2 : (h)[r0]? = some (9, fs2)) (hm2 : MSX m_X9_needTree d [.ref r0] h E g2) (hx : ST sc m_X9_code (d + 1) rc rs 1 [some (.ref r0), some (.int l1)] g2 E P) : SW sc m_X9_code (d + 1) (rc + 1) (rs + 6) 0 [some (.ref r0), some (.int l1)] [] h P := by
  refine sw_aload_n dX9_code_0 rfl ?_
  exact sw_xV dX9_code_1 lv_X9_224 hm2 hr2 rfl (by decide) rfl rfl rfl (Nat.le_of_ble_eq_true rfl) (fun _ _ => rfl) rfl hx
theorem b_X9_code_8 {r0 : Nat} {l1 : Int32} {fs3 : List Value} {a3 : Nat} {fs4 : List Value} {x4 : Int32} {v5 : Int32} {g5 : ab_H} (hc3 : (h)[r0]? = some (9, fs3)) (hv3 : fs3[2]? = some (.ref a3)) (hc4 : (h)[a3]? = some (3, fs4)) (hv4 : fs4[2]? = some (.int x4)) (hm5 : MSE m_X9_codeLength d [.int x4] h (some (.int v5)) g5) (kt : l1 < v5 → SW sc m_X9_code (d + 1) rc rs 32 [some (.ref r0), some (.int l1)] [] g5 P) (kf : ¬ (l1 < v5) → SW sc m_X9_code (d + 1) rc rs 22 [none, none] [] g5 P) : SW sc m_X9_code (d + 1) rc rs 8 [some (.ref r0), some (.int l1)] [] h P := by
  refine sw_iload_n dX9_code_8 rfl ?_
  refine sw_aload_n dX9_code_9 rfl ?_
  refine sw_getf dX9_code_10 lf_X9_26 hc3 hv3 ?_
  refine sw_getf dX9_code_13 lf_X9_110 hc4 hv4 ?_
  refine sw_cS dX9_code_16 ls_X9_227 hm5 rfl rfl (Nat.le_of_ble_eq_true rfl) (fun _ _ => rfl) rfl ?_
  show SW sc m_X9_code _ _ _ 19 [some (.ref r0), some (.int l1)] [.int v5, .int l1] g5 P
  exact sw_icmp_lt dX9_code_19 (by decide) (fun q => (kt q)) (fun q => (sw_fg [true, true] rfl (kf q)))
theorem b_X9_code_22  (hP : P (.inr 4) h) : SW sc m_X9_code d (rc + 1) (rs + 6) 22 [none, none] [] h P := by
  exact sw_throwN dX9_code_22 dX9_code_25 dX9_code_26 dX9_code_28 dX9_code_31 lt_X9_4 sr_X9_230 (Nat.le_of_ble_eq_true rfl) (fun _ _ => rfl) (st_out rfl hP)
theorem b_X9_code_32 {r0 : Nat} {l1 : Int32} {fs2 : List Value} {a2 : Nat} {fs4 : List Value} {a4 : Nat} {g5 : ab_H} {fs5 : List Value} {fs7 : List Value} {a7 : Nat} {v9 : Int32} {g9 : ab_H} {fs9 : List Value} (hc2 : (h)[r0]? = some (9, fs2)) (hv2 : fs2[4]? = some (.ref a2)) (hc4 : (h)[r0]? = some (9, fs4)) (hv4 : fs4[2]? = some (.ref a4)) (hr5 : (h)[a2]? = some (1, fs5)) (hm5 : MSE m_X1_take d [.ref a2, .ref a4] h none g5) (hc7 : (g5)[r0]? = some (9, fs7)) (hv7 : fs7[4]? = some (.ref a7)) (hr9 : (g5)[a7]? = some (1, fs9)) (hm9 : MSE m_X1_number d [.ref a7, .int l1] g5 (some (.int v9)) g9) (hP : P (.inl (some (.int v9))) g9) : SW sc m_X9_code (d + 1) rc rs 32 [some (.ref r0), some (.int l1)] [] h P := by
  refine sw_aload_n dX9_code_32 rfl ?_
  refine sw_getf dX9_code_33 lf_X9_36 hc2 hv2 ?_
  refine sw_aload_n dX9_code_36 rfl ?_
  refine sw_getf dX9_code_37 lf_X9_26 hc4 hv4 ?_
  refine sw_cV dX9_code_40 lv_X9_232 hm5 hr5 rfl (by decide) rfl rfl rfl (Nat.le_of_ble_eq_true rfl) (fun _ _ => rfl) rfl ?_
  show SW sc m_X9_code _ _ _ 43 [some (.ref r0), some (.int l1)] [] g5 P
  refine sw_aload_n dX9_code_43 rfl ?_
  refine sw_getf dX9_code_44 lf_X9_36 hc7 hv7 ?_
  refine sw_iload_n dX9_code_47 rfl ?_
  refine sw_cV dX9_code_48 lv_X9_235 hm9 hr9 rfl (by decide) rfl rfl rfl (Nat.le_of_ble_eq_true rfl) (fun _ _ => rfl) rfl ?_
  show SW sc m_X9_code _ _ _ 51 [some (.ref r0), some (.int l1)] [.int v9] g9 P
  exact sw_ret (v := (some (.int v9))) dX9_code_51 rt_i hP
theorem b_X9_rank_0 {r0 : Nat} {g2 : ab_H} {fs2 : List Value} {fs4 : List Value} {a4 : Nat} {fs6 : List Value} {a6 : Nat} {v7 : Int32} {g7 : ab_H} {fs7 : List Value} (hr2 : (h)[r0]? = some (9, fs2)) (hm2 : MSE m_X9_needTree d [.ref r0] h none g2) (hc4 : (g2)[r0]? = some (9, fs4)) (hv4 : fs4[4]? = some (.ref a4)) (hc6 : (g2)[r0]? = some (9, fs6)) (hv6 : fs6[2]? = some (.ref a6)) (hr7 : (g2)[a4]? = some (1, fs7)) (hm7 : MSE m_X1_rankOf d [.ref a4, .ref a6] g2 (some (.int v7)) g7) (hP : P (.inl (some (.int v7))) g7) : SW sc m_X9_rank (d + 1) rc rs 0 [some (.ref r0)] [] h P := by
  refine sw_aload_n dX9_rank_0 rfl ?_
  refine sw_cV dX9_rank_1 lv_X9_224 hm2 hr2 rfl (by decide) rfl rfl rfl (Nat.le_of_ble_eq_true rfl) (fun _ _ => rfl) rfl ?_
  show SW sc m_X9_rank _ _ _ 4 [some (.ref r0)] [] g2 P
  refine sw_aload_n dX9_rank_4 rfl ?_
  refine sw_getf dX9_rank_5 lf_X9_36 hc4 hv4 ?_
  refine sw_aload_n dX9_rank_8 rfl ?_
  refine sw_getf dX9_rank_9 lf_X9_26 hc6 hv6 ?_
  refine sw_cV dX9_rank_12 lv_X9_238 hm7 hr7 rfl (by decide) rfl rfl rfl (Nat.le_of_ble_eq_true rfl) (fun _ _ => rfl) rfl ?_
  show SW sc m_X9_rank _ _ _ 15 [some (.ref r0)] [.int v7] g7 P
  exact sw_ret (v := (some (.int v7))) dX9_rank_15 rt_i hP
theorem bx_X9_rank_0_1 {r0 : Nat} {E : Nat} {g2 : ab_H} {fs2 : List Value} (hr2 : (h)[r0]? = some (9, fs2)) (hm2 : MSX m_X9_needTree d [.ref r0] h E g2) (hx : ST sc m_X9_rank (d + 1) rc rs 1 [some (.ref r0)] g2 E P) : SW sc m_X9_rank (d + 1) (rc + 1) (rs + 6) 0 [some (.ref r0)] [] h P := by
  refine sw_aload_n dX9_rank_0 rfl ?_
  exact sw_xV dX9_rank_1 lv_X9_224 hm2 hr2 rfl (by decide) rfl rfl rfl (Nat.le_of_ble_eq_true rfl) (fun _ _ => rfl) rfl hx
theorem b_X9_sameDegrees_0 {r0 : Nat} {g2 : ab_H} {fs2 : List Value} {fs4 : List Value} {a4 : Nat} {fs5 : List Value} {x5 : Int32} {v8 : Int32} {g8 : ab_H} (hr2 : (h)[r0]? = some (9, fs2)) (hm2 : MSE m_X9_needTree d [.ref r0] h none g2) (hc4 : (g2)[r0]? = some (9, fs4)) (hv4 : fs4[2]? = some (.ref a4)) (hc5 : (g2)[a4]? = some (3, fs5)) (hv5 : fs5[2]? = some (.int x5)) (hm8 : MSE m_X9_factorial d [.int (x5 - 2)] g2 (some (.int v8)) g8) (k : SW sc m_X9_sameDegrees (d + 1) rc rs 19 [some (.ref r0), some (.int v8), some (.int 0)] [] g8 P) : SW sc m_X9_sameDegrees (d + 1) rc rs 0 [some (.ref r0), none, none] [] h P := by
  refine sw_aload_n dX9_sameDegrees_0 rfl ?_
  refine sw_cV dX9_sameDegrees_1 lv_X9_224 hm2 hr2 rfl (by decide) rfl rfl rfl (Nat.le_of_ble_eq_true rfl) (fun _ _ => rfl) rfl ?_
  show SW sc m_X9_sameDegrees _ _ _ 4 [some (.ref r0), none, none] [] g2 P
  refine sw_aload_n dX9_sameDegrees_4 rfl ?_
  refine sw_getf dX9_sameDegrees_5 lf_X9_26 hc4 hv4 ?_
  refine sw_getf dX9_sameDegrees_8 lf_X9_110 hc5 hv5 ?_
  refine sw_iconst (v := 2) dX9_sameDegrees_11 (by decide) ?_
  refine sw_isub dX9_sameDegrees_12 ?_
  refine sw_cS dX9_sameDegrees_13 ls_X9_242 hm8 rfl rfl (Nat.le_of_ble_eq_true rfl) (fun _ _ => rfl) rfl ?_
  show SW sc m_X9_sameDegrees _ _ _ 16 [some (.ref r0), none, none] [.int v8] g8 P
  refine sw_istore_n dX9_sameDegrees_16 (by decide) rfl ?_
  show SW sc m_X9_sameDegrees _ _ _ 17 [some (.ref r0), some (.int v8), none] [] g8 P
  refine sw_iconst (v := 0) dX9_sameDegrees_17 (by decide) ?_
  refine sw_istore_n dX9_sameDegrees_18 (by decide) rfl ?_
  show SW sc m_X9_sameDegrees _ _ _ 19 [some (.ref r0), some (.int v8), some (.int 0)] [] g8 P
  exact (k)
theorem bx_X9_sameDegrees_0_1 {r0 : Nat} {E : Nat} {g2 : ab_H} {fs2 : List Value} (hr2 : (h)[r0]? = some (9, fs2)) (hm2 : MSX m_X9_needTree d [.ref r0] h E g2) (hx : ST sc m_X9_sameDegrees (d + 1) rc rs 1 [some (.ref r0), none, none] g2 E P) : SW sc m_X9_sameDegrees (d + 1) (rc + 1) (rs + 6) 0 [some (.ref r0), none, none] [] h P := by
  refine sw_aload_n dX9_sameDegrees_0 rfl ?_
  exact sw_xV dX9_sameDegrees_1 lv_X9_224 hm2 hr2 rfl (by decide) rfl rfl rfl (Nat.le_of_ble_eq_true rfl) (fun _ _ => rfl) rfl hx
theorem b_X9_sameDegrees_19 {r0 : Nat} {l1 : Int32} {l2 : Int32} {fs3 : List Value} {a3 : Nat} {fs4 : List Value} {x4 : Int32} (hc3 : (h)[r0]? = some (9, fs3)) (hv3 : fs3[2]? = some (.ref a3)) (hc4 : (h)[a3]? = some (3, fs4)) (hv4 : fs4[2]? = some (.int x4)) (kt : x4 ≤ l2 → SW sc m_X9_sameDegrees d rc rs 54 [none, some (.int l1), none] [] h P) (kf : ¬ (x4 ≤ l2) → SW sc m_X9_sameDegrees d rc rs 30 [some (.ref r0), some (.int l1), some (.int l2)] [] h P) : SW sc m_X9_sameDegrees d rc rs 19 [some (.ref r0), some (.int l1), some (.int l2)] [] h P := by
  refine sw_iload_n dX9_sameDegrees_19 rfl ?_
  refine sw_aload_n dX9_sameDegrees_20 rfl ?_
  refine sw_getf dX9_sameDegrees_21 lf_X9_26 hc3 hv3 ?_
  refine sw_getf dX9_sameDegrees_24 lf_X9_110 hc4 hv4 ?_
  exact sw_icmp_ge dX9_sameDegrees_27 (by decide) (fun q => (sw_fg [true, false, true] rfl (kt q))) (fun q => (kf q))
theorem b_X9_sameDegrees_30 {r0 : Nat} {l1 : Int32} {l2 : Int32} {fs3 : List Value} {a3 : Nat} {v5 : Int32} {g5 : ab_H} {fs5 : List Value} {v8 : Int32} {g8 : ab_H} {v9 : Int32} {g9 : ab_H} (hc3 : (h)[r0]? = some (9, fs3)) (hv3 : fs3[2]? = some (.ref a3)) (hr5 : (h)[a3]? = some (3, fs5)) (hm5 : MSE m_X3_degree d [.ref a3, .int l2] h (some (.int v5)) g5) (hm8 : MSE m_X9_factorial d [.int (v5 - 1)] g5 (some (.int v8)) g8) (hm9 : MSE m_X9_quotient d [.int l1, .int v8] g8 (some (.int v9)) g9) (k : SW sc m_X9_sameDegrees (d + 1) rc rs 19 [some (.ref r0), some (.int v9), some (.int (l2 + 1))] [] g9 P) : SW sc m_X9_sameDegrees (d + 1) rc rs 30 [some (.ref r0), some (.int l1), some (.int l2)] [] h P := by
  refine sw_iload_n dX9_sameDegrees_30 rfl ?_
  refine sw_aload_n dX9_sameDegrees_31 rfl ?_
  refine sw_getf dX9_sameDegrees_32 lf_X9_26 hc3 hv3 ?_
  refine sw_iload_n dX9_sameDegrees_35 rfl ?_
  refine sw_cV dX9_sameDegrees_36 lv_X9_149 hm5 hr5 rfl (by decide) rfl rfl rfl (Nat.le_of_ble_eq_true rfl) (fun _ _ => rfl) rfl ?_
  show SW sc m_X9_sameDegrees _ _ _ 39 [some (.ref r0), some (.int l1), some (.int l2)] [.int v5, .int l1] g5 P
  refine sw_iconst (v := 1) dX9_sameDegrees_39 (by decide) ?_
  refine sw_isub dX9_sameDegrees_40 ?_
  refine sw_cS dX9_sameDegrees_41 ls_X9_242 hm8 rfl rfl (Nat.le_of_ble_eq_true rfl) (fun _ _ => rfl) rfl ?_
  show SW sc m_X9_sameDegrees _ _ _ 44 [some (.ref r0), some (.int l1), some (.int l2)] [.int v8, .int l1] g8 P
  refine sw_cS dX9_sameDegrees_44 ls_X9_245 hm9 rfl rfl (Nat.le_of_ble_eq_true rfl) (fun _ _ => rfl) rfl ?_
  show SW sc m_X9_sameDegrees _ _ _ 47 [some (.ref r0), some (.int l1), some (.int l2)] [.int v9] g9 P
  refine sw_istore_n dX9_sameDegrees_47 (by decide) rfl ?_
  show SW sc m_X9_sameDegrees _ _ _ 48 [some (.ref r0), some (.int v9), some (.int l2)] [] g9 P
  refine sw_iinc (v := l2 + 1) dX9_sameDegrees_48 rfl rfl (by decide) rfl ?_
  show SW sc m_X9_sameDegrees _ _ _ 51 [some (.ref r0), some (.int v9), some (.int (l2 + 1))] [] g9 P
  exact sw_goto dX9_sameDegrees_51 (by decide) (k)
theorem b_X9_sameDegrees_54 {l1 : Int32} (hP : P (.inl (some (.int l1))) h) : SW sc m_X9_sameDegrees d rc rs 54 [none, some (.int l1), none] [] h P := by
  refine sw_iload_n dX9_sameDegrees_54 rfl ?_
  exact sw_ret (v := (some (.int l1))) dX9_sameDegrees_55 rt_i hP
theorem b_X9_writeWord_0 {r0 : Nat} {l1 : Int32} {v3 : Int32} {g3 : ab_H} {fs3 : List Value} {fs6 : List Value} {a6 : Nat} {v8 : Int32} {g8 : ab_H} {fs8 : List Value} {fs11 : List Value} {a11 : Nat} {fs13 : List Value} {a13 : Nat} {v15 : Int32} {g15 : ab_H} {fs15 : List Value} {v19 : Int32} {g19 : ab_H} (hr3 : (h)[r0]? = some (9, fs3)) (hm3 : MSE m_X9_neededComponent d [.ref r0, .int l1] h (some (.int v3)) g3) (hc6 : (g3)[r0]? = some (9, fs6)) (hv6 : fs6[1]? = some (.ref a6)) (hr8 : (g3)[a6]? = some (0, fs8)) (hm8 : MSE m_X0_shorten d [.ref a6, .int 0] g3 (some (.int v8)) g8) (hc11 : (g8)[r0]? = some (9, fs11)) (hv11 : fs11[5]? = some (.ref a11)) (hc13 : (g8)[r0]? = some (9, fs13)) (hv13 : fs13[2]? = some (.ref a13)) (hr15 : (g8)[a11]? = some (8, fs15)) (hm15 : MSE m_X8_wordOf d [.ref a11, .ref a13, .int v3] g8 (some (.int v15)) g15) (hm19 : MSE m_J6_bitCount_0f7a4 d [.int v3] g15 (some (.int v19)) g19) (k : SW sc m_X9_writeWord (d + 1) rc rs 39 [some (.ref r0), none, none, some (.int v15), some (.int (2 * v19)), some (.int 0)] [] g19 P) : SW sc m_X9_writeWord (d + 1) rc rs 0 [some (.ref r0), some (.int l1), none, none, none, none] [] h P := by
  refine sw_aload_n dX9_writeWord_0 rfl ?_
  refine sw_iload_n dX9_writeWord_1 rfl ?_
  refine sw_cV dX9_writeWord_2 lv_X9_185 hm3 hr3 rfl (by decide) rfl rfl rfl (Nat.le_of_ble_eq_true rfl) (fun _ _ => rfl) rfl ?_
  show SW sc m_X9_writeWord _ _ _ 5 [some (.ref r0), some (.int l1), none, none, none, none] [.int v3] g3 P
  refine sw_istore_n dX9_writeWord_5 (by decide) rfl ?_
  show SW sc m_X9_writeWord _ _ _ 6 [some (.ref r0), some (.int l1), some (.int v3), none, none, none] [] g3 P
  refine sw_aload_n dX9_writeWord_6 rfl ?_
  refine sw_getf dX9_writeWord_7 lf_X9_19 hc6 hv6 ?_
  refine sw_iconst (v := 0) dX9_writeWord_10 (by decide) ?_
  refine sw_cV dX9_writeWord_11 lv_X9_83 hm8 hr8 rfl (by decide) rfl rfl rfl (Nat.le_of_ble_eq_true rfl) (fun _ _ => rfl) rfl ?_
  show SW sc m_X9_writeWord _ _ _ 14 [some (.ref r0), some (.int l1), some (.int v3), none, none, none] [.int v8] g8 P
  refine sw_pop dX9_writeWord_14 (fun _ _ => rfl) ?_
  refine sw_aload_n dX9_writeWord_15 rfl ?_
  refine sw_getf dX9_writeWord_16 lf_X9_43 hc11 hv11 ?_
  refine sw_aload_n dX9_writeWord_19 rfl ?_
  refine sw_getf dX9_writeWord_20 lf_X9_26 hc13 hv13 ?_
  refine sw_iload_n dX9_writeWord_23 rfl ?_
  refine sw_cV dX9_writeWord_24 lv_X9_248 hm15 hr15 rfl (by decide) rfl rfl rfl (Nat.le_of_ble_eq_true rfl) (fun _ _ => rfl) rfl ?_
  show SW sc m_X9_writeWord _ _ _ 27 [some (.ref r0), some (.int l1), some (.int v3), none, none, none] [.int v15] g15 P
  refine sw_istore_n dX9_writeWord_27 (by decide) rfl ?_
  show SW sc m_X9_writeWord _ _ _ 28 [some (.ref r0), some (.int l1), some (.int v3), some (.int v15), none, none] [] g15 P
  refine sw_iconst (v := 2) dX9_writeWord_28 (by decide) ?_
  refine sw_iload_n dX9_writeWord_29 rfl ?_
  refine sw_cS dX9_writeWord_30 ls_X9_161 hm19 rfl rfl (Nat.le_of_ble_eq_true rfl) (fun _ _ => rfl) rfl ?_
  show SW sc m_X9_writeWord _ _ _ 33 [some (.ref r0), some (.int l1), some (.int v3), some (.int v15), none, none] [.int v19, .int 2] g19 P
  refine sw_imul dX9_writeWord_33 ?_
  refine sw_istore dX9_writeWord_34 (by decide) rfl ?_
  show SW sc m_X9_writeWord _ _ _ 36 [some (.ref r0), some (.int l1), some (.int v3), some (.int v15), some (.int (2 * v19)), none] [] g19 P
  refine sw_iconst (v := 0) dX9_writeWord_36 (by decide) ?_
  refine sw_istore dX9_writeWord_37 (by decide) rfl ?_
  show SW sc m_X9_writeWord _ _ _ 39 [some (.ref r0), some (.int l1), some (.int v3), some (.int v15), some (.int (2 * v19)), some (.int 0)] [] g19 P
  exact (sw_fg [false, true, true, false, false, false] rfl (k))
theorem bx_X9_writeWord_0_2 {r0 : Nat} {l1 : Int32} {E : Nat} {g3 : ab_H} {fs3 : List Value} (hr3 : (h)[r0]? = some (9, fs3)) (hm3 : MSX m_X9_neededComponent d [.ref r0, .int l1] h E g3) (hx : ST sc m_X9_writeWord (d + 1) rc rs 2 [some (.ref r0), some (.int l1), none, none, none, none] g3 E P) : SW sc m_X9_writeWord (d + 1) (rc + 1) (rs + 6) 0 [some (.ref r0), some (.int l1), none, none, none, none] [] h P := by
  refine sw_aload_n dX9_writeWord_0 rfl ?_
  refine sw_iload_n dX9_writeWord_1 rfl ?_
  exact sw_xV dX9_writeWord_2 lv_X9_185 hm3 hr3 rfl (by decide) rfl rfl rfl (Nat.le_of_ble_eq_true rfl) (fun _ _ => rfl) rfl hx
theorem b_X9_writeWord_39 {r0 : Nat} {l3 : Int32} {l4 : Int32} {l5 : Int32} (kt : l4 ≤ l5 → SW sc m_X9_writeWord d rc rs 65 [some (.ref r0), none, none, none, none, none] [] h P) (kf : ¬ (l4 ≤ l5) → SW sc m_X9_writeWord d rc rs 46 [some (.ref r0), none, none, some (.int l3), some (.int l4), some (.int l5)] [] h P) : SW sc m_X9_writeWord d rc rs 39 [some (.ref r0), none, none, some (.int l3), some (.int l4), some (.int l5)] [] h P := by
  refine sw_iload dX9_writeWord_39 rfl ?_
  refine sw_iload dX9_writeWord_41 rfl ?_
  exact sw_icmp_ge dX9_writeWord_43 (by decide) (fun q => (sw_fg [false, false, false, true, true, true] rfl (kt q))) (fun q => (kf q))
theorem b_X9_writeWord_46 {r0 : Nat} {l3 : Int32} {l4 : Int32} {l5 : Int32} {fs2 : List Value} {a2 : Nat} {v5 : Int32} {g5 : ab_H} {g6 : ab_H} {fs6 : List Value} (hc2 : (h)[r0]? = some (9, fs2)) (hv2 : fs2[1]? = some (.ref a2)) (hm5 : MSE m_X8_signAt d [.int l3, .int l5] h (some (.int v5)) g5) (hr6 : (g5)[a2]? = some (0, fs6)) (hm6 : MSE m_X0_put d [.ref a2, .int v5] g5 none g6) (k : SW sc m_X9_writeWord (d + 1) rc rs 39 [some (.ref r0), none, none, some (.int l3), some (.int l4), some (.int (l5 + 1))] [] g6 P) : SW sc m_X9_writeWord (d + 1) rc rs 46 [some (.ref r0), none, none, some (.int l3), some (.int l4), some (.int l5)] [] h P := by
  refine sw_aload_n dX9_writeWord_46 rfl ?_
  refine sw_getf dX9_writeWord_47 lf_X9_19 hc2 hv2 ?_
  refine sw_iload_n dX9_writeWord_50 rfl ?_
  refine sw_iload dX9_writeWord_51 rfl ?_
  refine sw_cS dX9_writeWord_53 ls_X9_251 hm5 rfl rfl (Nat.le_of_ble_eq_true rfl) (fun _ _ => rfl) rfl ?_
  show SW sc m_X9_writeWord _ _ _ 56 [some (.ref r0), none, none, some (.int l3), some (.int l4), some (.int l5)] [.int v5, .ref a2] g5 P
  refine sw_cV dX9_writeWord_56 lv_X9_254 hm6 hr6 rfl (by decide) rfl rfl rfl (Nat.le_of_ble_eq_true rfl) (fun _ _ => rfl) rfl ?_
  show SW sc m_X9_writeWord _ _ _ 59 [some (.ref r0), none, none, some (.int l3), some (.int l4), some (.int l5)] [] g6 P
  refine sw_iinc (v := l5 + 1) dX9_writeWord_59 rfl rfl (by decide) rfl ?_
  show SW sc m_X9_writeWord _ _ _ 62 [some (.ref r0), none, none, some (.int l3), some (.int l4), some (.int (l5 + 1))] [] g6 P
  exact sw_goto dX9_writeWord_62 (by decide) (k)
theorem b_X9_writeWord_65 {r0 : Nat} {fs2 : List Value} {a2 : Nat} {fs3 : List Value} {x3 : Int32} (hc2 : (h)[r0]? = some (9, fs2)) (hv2 : fs2[1]? = some (.ref a2)) (hc3 : (h)[a2]? = some (0, fs3)) (hv3 : fs3[1]? = some (.int x3)) (hP : P (.inl (some (.int x3))) h) : SW sc m_X9_writeWord d rc rs 65 [some (.ref r0), none, none, none, none, none] [] h P := by
  refine sw_aload_n dX9_writeWord_65 rfl ?_
  refine sw_getf dX9_writeWord_66 lf_X9_19 hc2 hv2 ?_
  refine sw_getf dX9_writeWord_69 lf_X9_75 hc3 hv3 ?_
  exact sw_ret (v := (some (.int x3))) dX9_writeWord_72 rt_i hP
theorem b_X9_writeText_0 {r0 : Nat} {fs2 : List Value} {a2 : Nat} {v4 : Int32} {g4 : ab_H} {fs4 : List Value} {fs7 : List Value} {a7 : Nat} {fs10 : List Value} {a10 : Nat} {fs11 : List Value} {x11 : Int32} {g13 : ab_H} {fs13 : List Value} (hc2 : (h)[r0]? = some (9, fs2)) (hv2 : fs2[1]? = some (.ref a2)) (hr4 : (h)[a2]? = some (0, fs4)) (hm4 : MSE m_X0_shorten d [.ref a2, .int 0] h (some (.int v4)) g4) (hc7 : (g4)[r0]? = some (9, fs7)) (hv7 : fs7[1]? = some (.ref a7)) (hc10 : (g4)[r0]? = some (9, fs10)) (hv10 : fs10[2]? = some (.ref a10)) (hc11 : (g4)[a10]? = some (3, fs11)) (hv11 : fs11[2]? = some (.int x11)) (hr13 : (g4)[a7]? = some (0, fs13)) (hm13 : MSE m_X0_putStatement d [.ref a7, .retAddr 0, .int x11, .int (-1)] g4 none g13) (k : SW sc m_X9_writeText (d + 1) rc rs 29 [some (.ref r0), some (.int 0), none] [] g13 P) : SW sc m_X9_writeText (d + 1) rc rs 0 [some (.ref r0), none, none] [] h P := by
  refine sw_aload_n dX9_writeText_0 rfl ?_
  refine sw_getf dX9_writeText_1 lf_X9_19 hc2 hv2 ?_
  refine sw_iconst (v := 0) dX9_writeText_4 (by decide) ?_
  refine sw_cV dX9_writeText_5 lv_X9_83 hm4 hr4 rfl (by decide) rfl rfl rfl (Nat.le_of_ble_eq_true rfl) (fun _ _ => rfl) rfl ?_
  show SW sc m_X9_writeText _ _ _ 8 [some (.ref r0), none, none] [.int v4] g4 P
  refine sw_pop dX9_writeText_8 (fun _ _ => rfl) ?_
  refine sw_aload_n dX9_writeText_9 rfl ?_
  refine sw_getf dX9_writeText_10 lf_X9_19 hc7 hv7 ?_
  refine sw_ldcw (t := 0) dX9_writeText_13 sr_X9_257 rfl ?_
  refine sw_aload_n dX9_writeText_16 rfl ?_
  refine sw_getf dX9_writeText_17 lf_X9_26 hc10 hv10 ?_
  refine sw_getf dX9_writeText_20 lf_X9_110 hc11 hv11 ?_
  refine sw_iconst (v := (-1)) dX9_writeText_23 (by decide) ?_
  refine sw_cV dX9_writeText_24 lv_X9_259 hm13 hr13 rfl (by decide) rfl rfl rfl (Nat.le_of_ble_eq_true rfl) (fun _ _ => rfl) rfl ?_
  show SW sc m_X9_writeText _ _ _ 27 [some (.ref r0), none, none] [] g13 P
  refine sw_iconst (v := 0) dX9_writeText_27 (by decide) ?_
  refine sw_istore_n dX9_writeText_28 (by decide) rfl ?_
  show SW sc m_X9_writeText _ _ _ 29 [some (.ref r0), some (.int 0), none] [] g13 P
  exact (k)
theorem b_X9_writeText_29 {r0 : Nat} {l1 : Int32} {fs3 : List Value} {a3 : Nat} {fs4 : List Value} {x4 : Int32} (hc3 : (h)[r0]? = some (9, fs3)) (hv3 : fs3[2]? = some (.ref a3)) (hc4 : (h)[a3]? = some (3, fs4)) (hv4 : fs4[2]? = some (.int x4)) (kt : x4 ≤ l1 → SW sc m_X9_writeText d rc rs 91 [some (.ref r0), none, none] [] h P) (kf : ¬ (x4 ≤ l1) → SW sc m_X9_writeText d rc rs 40 [some (.ref r0), some (.int l1), none] [] h P) : SW sc m_X9_writeText d rc rs 29 [some (.ref r0), some (.int l1), none] [] h P := by
  refine sw_iload_n dX9_writeText_29 rfl ?_
  refine sw_aload_n dX9_writeText_30 rfl ?_
  refine sw_getf dX9_writeText_31 lf_X9_26 hc3 hv3 ?_
  refine sw_getf dX9_writeText_34 lf_X9_110 hc4 hv4 ?_
  exact sw_icmp_ge dX9_writeText_37 (by decide) (fun q => (sw_fg [false, true, false] rfl (kt q))) (fun q => (kf q))
theorem b_X9_writeText_40 {r0 : Nat} {l1 : Int32} (k : SW sc m_X9_writeText d rc rs 44 [some (.ref r0), some (.int l1), some (.int (l1 + 1))] [] h P) : SW sc m_X9_writeText d rc rs 40 [some (.ref r0), some (.int l1), none] [] h P := by
  refine sw_iload_n dX9_writeText_40 rfl ?_
  refine sw_iconst (v := 1) dX9_writeText_41 (by decide) ?_
  refine sw_iadd dX9_writeText_42 ?_
  refine sw_istore_n dX9_writeText_43 (by decide) rfl ?_
  show SW sc m_X9_writeText _ _ _ 44 [some (.ref r0), some (.int l1), some (.int (l1 + 1))] [] h P
  exact (k)
theorem b_X9_writeText_44 {r0 : Nat} {l1 : Int32} {l2 : Int32} {fs3 : List Value} {a3 : Nat} {fs4 : List Value} {x4 : Int32} (hc3 : (h)[r0]? = some (9, fs3)) (hv3 : fs3[2]? = some (.ref a3)) (hc4 : (h)[a3]? = some (3, fs4)) (hv4 : fs4[2]? = some (.int x4)) (kt : x4 ≤ l2 → SW sc m_X9_writeText d rc rs 85 [some (.ref r0), some (.int l1), none] [] h P) (kf : ¬ (x4 ≤ l2) → SW sc m_X9_writeText d rc rs 55 [some (.ref r0), some (.int l1), some (.int l2)] [] h P) : SW sc m_X9_writeText d rc rs 44 [some (.ref r0), some (.int l1), some (.int l2)] [] h P := by
  refine sw_iload_n dX9_writeText_44 rfl ?_
  refine sw_aload_n dX9_writeText_45 rfl ?_
  refine sw_getf dX9_writeText_46 lf_X9_26 hc3 hv3 ?_
  refine sw_getf dX9_writeText_49 lf_X9_110 hc4 hv4 ?_
  exact sw_icmp_ge dX9_writeText_52 (by decide) (fun q => (sw_fg [false, false, true] rfl (kt q))) (fun q => (kf q))
theorem b_X9_writeText_55 {r0 : Nat} {l1 : Int32} {l2 : Int32} {fs2 : List Value} {a2 : Nat} {v5 : Int32} {g5 : ab_H} {fs5 : List Value} (hc2 : (h)[r0]? = some (9, fs2)) (hv2 : fs2[2]? = some (.ref a2)) (hr5 : (h)[a2]? = some (3, fs5)) (hm5 : MSE m_X3_hasEdge d [.ref a2, .int l1, .int l2] h (some (.int v5)) g5) (kt : v5 = 0 → SW sc m_X9_writeText (d + 1) rc rs 79 [some (.ref r0), some (.int l1), some (.int l2)] [] g5 P) (kf : ¬ (v5 = 0) → SW sc m_X9_writeText (d + 1) rc rs 67 [some (.ref r0), some (.int l1), some (.int l2)] [] g5 P) : SW sc m_X9_writeText (d + 1) rc rs 55 [some (.ref r0), some (.int l1), some (.int l2)] [] h P := by
  refine sw_aload_n dX9_writeText_55 rfl ?_
  refine sw_getf dX9_writeText_56 lf_X9_26 hc2 hv2 ?_
  refine sw_iload_n dX9_writeText_59 rfl ?_
  refine sw_iload_n dX9_writeText_60 rfl ?_
  refine sw_cV dX9_writeText_61 lv_X9_263 hm5 hr5 rfl (by decide) rfl rfl rfl (Nat.le_of_ble_eq_true rfl) (fun _ _ => rfl) rfl ?_
  show SW sc m_X9_writeText _ _ _ 64 [some (.ref r0), some (.int l1), some (.int l2)] [.int v5] g5 P
  exact sw_if_eq dX9_writeText_64 (by decide) (fun q => (kt q)) (fun q => (kf q))
theorem b_X9_writeText_67 {r0 : Nat} {l1 : Int32} {l2 : Int32} {fs2 : List Value} {a2 : Nat} {g6 : ab_H} {fs6 : List Value} (hc2 : (h)[r0]? = some (9, fs2)) (hv2 : fs2[1]? = some (.ref a2)) (hr6 : (h)[a2]? = some (0, fs6)) (hm6 : MSE m_X0_putStatement d [.ref a2, .retAddr 1, .int l1, .int l2] h none g6) (k : SW sc m_X9_writeText (d + 1) rc rs 79 [some (.ref r0), some (.int l1), some (.int l2)] [] g6 P) : SW sc m_X9_writeText (d + 1) rc rs 67 [some (.ref r0), some (.int l1), some (.int l2)] [] h P := by
  refine sw_aload_n dX9_writeText_67 rfl ?_
  refine sw_getf dX9_writeText_68 lf_X9_19 hc2 hv2 ?_
  refine sw_ldcw (t := 1) dX9_writeText_71 sr_X9_266 rfl ?_
  refine sw_iload_n dX9_writeText_74 rfl ?_
  refine sw_iload_n dX9_writeText_75 rfl ?_
  refine sw_cV dX9_writeText_76 lv_X9_259 hm6 hr6 rfl (by decide) rfl rfl rfl (Nat.le_of_ble_eq_true rfl) (fun _ _ => rfl) rfl ?_
  show SW sc m_X9_writeText _ _ _ 79 [some (.ref r0), some (.int l1), some (.int l2)] [] g6 P
  exact (k)
theorem b_X9_writeText_79 {r0 : Nat} {l1 : Int32} {l2 : Int32} (k : SW sc m_X9_writeText d rc rs 44 [some (.ref r0), some (.int l1), some (.int (l2 + 1))] [] h P) : SW sc m_X9_writeText d rc rs 79 [some (.ref r0), some (.int l1), some (.int l2)] [] h P := by
  refine sw_iinc (v := l2 + 1) dX9_writeText_79 rfl rfl (by decide) rfl ?_
  show SW sc m_X9_writeText _ _ _ 82 [some (.ref r0), some (.int l1), some (.int (l2 + 1))] [] h P
  exact sw_goto dX9_writeText_82 (by decide) (k)
theorem b_X9_writeText_85 {r0 : Nat} {l1 : Int32} (k : SW sc m_X9_writeText d rc rs 29 [some (.ref r0), some (.int (l1 + 1)), none] [] h P) : SW sc m_X9_writeText d rc rs 85 [some (.ref r0), some (.int l1), none] [] h P := by
  refine sw_iinc (v := l1 + 1) dX9_writeText_85 rfl rfl (by decide) rfl ?_
  show SW sc m_X9_writeText _ _ _ 88 [some (.ref r0), some (.int (l1 + 1)), none] [] h P
  exact sw_goto dX9_writeText_88 (by decide) (k)
theorem b_X9_writeText_91 {r0 : Nat} (k : SW sc m_X9_writeText d rc rs 93 [some (.ref r0), some (.int 0), none] [] h P) : SW sc m_X9_writeText d rc rs 91 [some (.ref r0), none, none] [] h P := by
  refine sw_iconst (v := 0) dX9_writeText_91 (by decide) ?_
  refine sw_istore_n dX9_writeText_92 (by decide) rfl ?_
  show SW sc m_X9_writeText _ _ _ 93 [some (.ref r0), some (.int 0), none] [] h P
  exact (k)
theorem b_X9_writeText_93 {r0 : Nat} {l1 : Int32} {fs3 : List Value} {a3 : Nat} {fs4 : List Value} {x4 : Int32} (hc3 : (h)[r0]? = some (9, fs3)) (hv3 : fs3[2]? = some (.ref a3)) (hc4 : (h)[a3]? = some (3, fs4)) (hv4 : fs4[2]? = some (.int x4)) (kt : x4 ≤ l1 → SW sc m_X9_writeText d rc rs 141 [some (.ref r0), none, none] [] h P) (kf : ¬ (x4 ≤ l1) → SW sc m_X9_writeText d rc rs 104 [some (.ref r0), some (.int l1), none] [] h P) : SW sc m_X9_writeText d rc rs 93 [some (.ref r0), some (.int l1), none] [] h P := by
  refine sw_iload_n dX9_writeText_93 rfl ?_
  refine sw_aload_n dX9_writeText_94 rfl ?_
  refine sw_getf dX9_writeText_95 lf_X9_26 hc3 hv3 ?_
  refine sw_getf dX9_writeText_98 lf_X9_110 hc4 hv4 ?_
  exact sw_icmp_ge dX9_writeText_101 (by decide) (fun q => (sw_fg [false, true, false] rfl (kt q))) (fun q => (kf q))
theorem b_X9_writeText_104 {r0 : Nat} {l1 : Int32} {fs2 : List Value} {a2 : Nat} {v4 : Int32} {g4 : ab_H} {fs4 : List Value} (hc2 : (h)[r0]? = some (9, fs2)) (hv2 : fs2[2]? = some (.ref a2)) (hr4 : (h)[a2]? = some (3, fs4)) (hm4 : MSE m_X3_weightOf d [.ref a2, .int l1] h (some (.int v4)) g4) (kt : v4 = 1 → SW sc m_X9_writeText (d + 1) rc rs 135 [some (.ref r0), some (.int l1), none] [] g4 P) (kf : ¬ (v4 = 1) → SW sc m_X9_writeText (d + 1) rc rs 116 [some (.ref r0), some (.int l1), none] [] g4 P) : SW sc m_X9_writeText (d + 1) rc rs 104 [some (.ref r0), some (.int l1), none] [] h P := by
  refine sw_aload_n dX9_writeText_104 rfl ?_
  refine sw_getf dX9_writeText_105 lf_X9_26 hc2 hv2 ?_
  refine sw_iload_n dX9_writeText_108 rfl ?_
  refine sw_cV dX9_writeText_109 lv_X9_152 hm4 hr4 rfl (by decide) rfl rfl rfl (Nat.le_of_ble_eq_true rfl) (fun _ _ => rfl) rfl ?_
  show SW sc m_X9_writeText _ _ _ 112 [some (.ref r0), some (.int l1), none] [.int v4] g4 P
  refine sw_iconst (v := 1) dX9_writeText_112 (by decide) ?_
  exact sw_icmp_eq dX9_writeText_113 (by decide) (fun q => (kt q)) (fun q => (kf q))
theorem b_X9_writeText_116 {r0 : Nat} {l1 : Int32} {fs2 : List Value} {a2 : Nat} {fs6 : List Value} {a6 : Nat} {v8 : Int32} {g8 : ab_H} {fs8 : List Value} {g9 : ab_H} {fs9 : List Value} (hc2 : (h)[r0]? = some (9, fs2)) (hv2 : fs2[1]? = some (.ref a2)) (hc6 : (h)[r0]? = some (9, fs6)) (hv6 : fs6[2]? = some (.ref a6)) (hr8 : (h)[a6]? = some (3, fs8)) (hm8 : MSE m_X3_weightOf d [.ref a6, .int l1] h (some (.int v8)) g8) (hr9 : (g8)[a2]? = some (0, fs9)) (hm9 : MSE m_X0_putStatement d [.ref a2, .retAddr 5, .int l1, .int v8] g8 none g9) (k : SW sc m_X9_writeText (d + 1) rc rs 135 [some (.ref r0), some (.int l1), none] [] g9 P) : SW sc m_X9_writeText (d + 1) rc rs 116 [some (.ref r0), some (.int l1), none] [] h P := by
  refine sw_aload_n dX9_writeText_116 rfl ?_
  refine sw_getf dX9_writeText_117 lf_X9_19 hc2 hv2 ?_
  refine sw_ldcw (t := 5) dX9_writeText_120 sr_X9_268 rfl ?_
  refine sw_iload_n dX9_writeText_123 rfl ?_
  refine sw_aload_n dX9_writeText_124 rfl ?_
  refine sw_getf dX9_writeText_125 lf_X9_26 hc6 hv6 ?_
  refine sw_iload_n dX9_writeText_128 rfl ?_
  refine sw_cV dX9_writeText_129 lv_X9_152 hm8 hr8 rfl (by decide) rfl rfl rfl (Nat.le_of_ble_eq_true rfl) (fun _ _ => rfl) rfl ?_
  show SW sc m_X9_writeText _ _ _ 132 [some (.ref r0), some (.int l1), none] [.int v8, .int l1, .retAddr 5, .ref a2] g8 P
  refine sw_cV dX9_writeText_132 lv_X9_259 hm9 hr9 rfl (by decide) rfl rfl rfl (Nat.le_of_ble_eq_true rfl) (fun _ _ => rfl) rfl ?_
  show SW sc m_X9_writeText _ _ _ 135 [some (.ref r0), some (.int l1), none] [] g9 P
  exact (k)
theorem b_X9_writeText_135 {r0 : Nat} {l1 : Int32} (k : SW sc m_X9_writeText d rc rs 93 [some (.ref r0), some (.int (l1 + 1)), none] [] h P) : SW sc m_X9_writeText d rc rs 135 [some (.ref r0), some (.int l1), none] [] h P := by
  refine sw_iinc (v := l1 + 1) dX9_writeText_135 rfl rfl (by decide) rfl ?_
  show SW sc m_X9_writeText _ _ _ 138 [some (.ref r0), some (.int (l1 + 1)), none] [] h P
  exact sw_goto dX9_writeText_138 (by decide) (k)
theorem b_X9_writeText_141 {r0 : Nat} {fs2 : List Value} {a2 : Nat} {fs3 : List Value} {x3 : Int32} (hc2 : (h)[r0]? = some (9, fs2)) (hv2 : fs2[1]? = some (.ref a2)) (hc3 : (h)[a2]? = some (0, fs3)) (hv3 : fs3[1]? = some (.int x3)) (hP : P (.inl (some (.int x3))) h) : SW sc m_X9_writeText d rc rs 141 [some (.ref r0), none, none] [] h P := by
  refine sw_aload_n dX9_writeText_141 rfl ?_
  refine sw_getf dX9_writeText_142 lf_X9_19 hc2 hv2 ?_
  refine sw_getf dX9_writeText_145 lf_X9_75 hc3 hv3 ?_
  exact sw_ret (v := (some (.int x3))) dX9_writeText_148 rt_i hP
theorem b_X9_outputByte_0 {r0 : Nat} {l1 : Int32} (kt : l1 < 0 → SW sc m_X9_outputByte d rc rs 15 [none, none] [] h P) (kf : ¬ (l1 < 0) → SW sc m_X9_outputByte d rc rs 4 [some (.ref r0), some (.int l1)] [] h P) : SW sc m_X9_outputByte d rc rs 0 [some (.ref r0), some (.int l1)] [] h P := by
  refine sw_iload_n dX9_outputByte_0 rfl ?_
  exact sw_if_lt dX9_outputByte_1 (by decide) (fun q => (sw_fg [true, true] rfl (kt q))) (fun q => (kf q))
theorem b_X9_outputByte_4 {r0 : Nat} {l1 : Int32} {fs3 : List Value} {a3 : Nat} {fs4 : List Value} {x4 : Int32} (hc3 : (h)[r0]? = some (9, fs3)) (hv3 : fs3[1]? = some (.ref a3)) (hc4 : (h)[a3]? = some (0, fs4)) (hv4 : fs4[1]? = some (.int x4)) (kt : l1 < x4 → SW sc m_X9_outputByte d rc rs 26 [some (.ref r0), some (.int l1)] [] h P) (kf : ¬ (l1 < x4) → SW sc m_X9_outputByte d rc rs 15 [none, none] [] h P) : SW sc m_X9_outputByte d rc rs 4 [some (.ref r0), some (.int l1)] [] h P := by
  refine sw_iload_n dX9_outputByte_4 rfl ?_
  refine sw_aload_n dX9_outputByte_5 rfl ?_
  refine sw_getf dX9_outputByte_6 lf_X9_19 hc3 hv3 ?_
  refine sw_getf dX9_outputByte_9 lf_X9_75 hc4 hv4 ?_
  exact sw_icmp_lt dX9_outputByte_12 (by decide) (fun q => (kt q)) (fun q => (sw_fg [true, true] rfl (kf q)))
theorem b_X9_outputByte_15  (hP : P (.inr 4) h) : SW sc m_X9_outputByte d (rc + 1) (rs + 6) 15 [none, none] [] h P := by
  exact sw_throwNW dX9_outputByte_15 dX9_outputByte_18 dX9_outputByte_19 dX9_outputByte_22 dX9_outputByte_25 lt_X9_4 sr_X9_270 (Nat.le_of_ble_eq_true rfl) (fun _ _ => rfl) (st_out rfl hP)
theorem b_X9_outputByte_26 {r0 : Nat} {l1 : Int32} {fs2 : List Value} {a2 : Nat} {v4 : Int32} {g4 : ab_H} {fs4 : List Value} (hc2 : (h)[r0]? = some (9, fs2)) (hv2 : fs2[1]? = some (.ref a2)) (hr4 : (h)[a2]? = some (0, fs4)) (hm4 : MSE m_X0_at d [.ref a2, .int l1] h (some (.int v4)) g4) (hP : P (.inl (some (.int v4))) g4) : SW sc m_X9_outputByte (d + 1) rc rs 26 [some (.ref r0), some (.int l1)] [] h P := by
  refine sw_aload_n dX9_outputByte_26 rfl ?_
  refine sw_getf dX9_outputByte_27 lf_X9_19 hc2 hv2 ?_
  refine sw_iload_n dX9_outputByte_30 rfl ?_
  refine sw_cV dX9_outputByte_31 lv_X9_272 hm4 hr4 rfl (by decide) rfl rfl rfl (Nat.le_of_ble_eq_true rfl) (fun _ _ => rfl) rfl ?_
  show SW sc m_X9_outputByte _ _ _ 34 [some (.ref r0), some (.int l1)] [.int v4] g4 P
  exact sw_ret (v := (some (.int v4))) dX9_outputByte_34 rt_i hP
theorem b_X9_symmetries_0 {r0 : Nat} {l1 : Int32} {fs2 : List Value} {a2 : Nat} {fs4 : List Value} {a4 : Nat} {v7 : Int32} {g7 : ab_H} {fs7 : List Value} {v8 : Int32} {g8 : ab_H} {fs8 : List Value} (hc2 : (h)[r0]? = some (9, fs2)) (hv2 : fs2[5]? = some (.ref a2)) (hc4 : (h)[r0]? = some (9, fs4)) (hv4 : fs4[2]? = some (.ref a4)) (hr7 : (h)[r0]? = some (9, fs7)) (hm7 : MSE m_X9_neededComponent d [.ref r0, .int l1] h (some (.int v7)) g7) (hr8 : (g7)[a2]? = some (8, fs8)) (hm8 : MSE m_X8_symmetriesOf d [.ref a2, .ref a4, .int v7] g7 (some (.int v8)) g8) (hP : P (.inl (some (.int v8))) g8) : SW sc m_X9_symmetries (d + 1) rc rs 0 [some (.ref r0), some (.int l1)] [] h P := by
  refine sw_aload_n dX9_symmetries_0 rfl ?_
  refine sw_getf dX9_symmetries_1 lf_X9_43 hc2 hv2 ?_
  refine sw_aload_n dX9_symmetries_4 rfl ?_
  refine sw_getf dX9_symmetries_5 lf_X9_26 hc4 hv4 ?_
  refine sw_aload_n dX9_symmetries_8 rfl ?_
  refine sw_iload_n dX9_symmetries_9 rfl ?_
  refine sw_cV dX9_symmetries_10 lv_X9_185 hm7 hr7 rfl (by decide) rfl rfl rfl (Nat.le_of_ble_eq_true rfl) (fun _ _ => rfl) rfl ?_
  show SW sc m_X9_symmetries _ _ _ 13 [some (.ref r0), some (.int l1)] [.int v7, .ref a4, .ref a2] g7 P
  refine sw_cV dX9_symmetries_13 lv_X9_275 hm8 hr8 rfl (by decide) rfl rfl rfl (Nat.le_of_ble_eq_true rfl) (fun _ _ => rfl) rfl ?_
  show SW sc m_X9_symmetries _ _ _ 16 [some (.ref r0), some (.int l1)] [.int v8] g8 P
  exact sw_ret (v := (some (.int v8))) dX9_symmetries_16 rt_i hP
theorem bx_X9_symmetries_0_10 {r0 : Nat} {l1 : Int32} {fs2 : List Value} {a2 : Nat} {fs4 : List Value} {a4 : Nat} {E : Nat} {g7 : ab_H} {fs7 : List Value} (hc2 : (h)[r0]? = some (9, fs2)) (hv2 : fs2[5]? = some (.ref a2)) (hc4 : (h)[r0]? = some (9, fs4)) (hv4 : fs4[2]? = some (.ref a4)) (hr7 : (h)[r0]? = some (9, fs7)) (hm7 : MSX m_X9_neededComponent d [.ref r0, .int l1] h E g7) (hx : ST sc m_X9_symmetries (d + 1) rc rs 10 [some (.ref r0), some (.int l1)] g7 E P) : SW sc m_X9_symmetries (d + 1) (rc + 1) (rs + 6) 0 [some (.ref r0), some (.int l1)] [] h P := by
  refine sw_aload_n dX9_symmetries_0 rfl ?_
  refine sw_getf dX9_symmetries_1 lf_X9_43 hc2 hv2 ?_
  refine sw_aload_n dX9_symmetries_4 rfl ?_
  refine sw_getf dX9_symmetries_5 lf_X9_26 hc4 hv4 ?_
  refine sw_aload_n dX9_symmetries_8 rfl ?_
  refine sw_iload_n dX9_symmetries_9 rfl ?_
  exact sw_xV dX9_symmetries_10 lv_X9_185 hm7 hr7 rfl (by decide) rfl rfl rfl (Nat.le_of_ble_eq_true rfl) (fun _ _ => rfl) rfl hx
theorem b_X9_labellings_0 {r0 : Nat} {l1 : Int32} {v3 : Int32} {g3 : ab_H} {fs3 : List Value} {v6 : Int32} {g6 : ab_H} {v7 : Int32} {g7 : ab_H} {fs9 : List Value} {a9 : Nat} {fs11 : List Value} {a11 : Nat} {v13 : Int32} {g13 : ab_H} {fs13 : List Value} {v14 : Int32} {g14 : ab_H} (hr3 : (h)[r0]? = some (9, fs3)) (hm3 : MSE m_X9_neededComponent d [.ref r0, .int l1] h (some (.int v3)) g3) (hm6 : MSE m_J6_bitCount_0f7a4 d [.int v3] g3 (some (.int v6)) g6) (hm7 : MSE m_X9_factorial d [.int v6] g6 (some (.int v7)) g7) (hc9 : (g7)[r0]? = some (9, fs9)) (hv9 : fs9[5]? = some (.ref a9)) (hc11 : (g7)[r0]? = some (9, fs11)) (hv11 : fs11[2]? = some (.ref a11)) (hr13 : (g7)[a9]? = some (8, fs13)) (hm13 : MSE m_X8_symmetriesOf d [.ref a9, .ref a11, .int v3] g7 (some (.int v13)) g13) (hm14 : MSE m_X9_quotient d [.int v7, .int v13] g13 (some (.int v14)) g14) (hP : P (.inl (some (.int v14))) g14) : SW sc m_X9_labellings (d + 1) rc rs 0 [some (.ref r0), some (.int l1), none] [] h P := by
  refine sw_aload_n dX9_labellings_0 rfl ?_
  refine sw_iload_n dX9_labellings_1 rfl ?_
  refine sw_cV dX9_labellings_2 lv_X9_185 hm3 hr3 rfl (by decide) rfl rfl rfl (Nat.le_of_ble_eq_true rfl) (fun _ _ => rfl) rfl ?_
  show SW sc m_X9_labellings _ _ _ 5 [some (.ref r0), some (.int l1), none] [.int v3] g3 P
  refine sw_istore_n dX9_labellings_5 (by decide) rfl ?_
  show SW sc m_X9_labellings _ _ _ 6 [some (.ref r0), some (.int l1), some (.int v3)] [] g3 P
  refine sw_iload_n dX9_labellings_6 rfl ?_
  refine sw_cS dX9_labellings_7 ls_X9_161 hm6 rfl rfl (Nat.le_of_ble_eq_true rfl) (fun _ _ => rfl) rfl ?_
  show SW sc m_X9_labellings _ _ _ 10 [some (.ref r0), some (.int l1), some (.int v3)] [.int v6] g6 P
  refine sw_cS dX9_labellings_10 ls_X9_242 hm7 rfl rfl (Nat.le_of_ble_eq_true rfl) (fun _ _ => rfl) rfl ?_
  show SW sc m_X9_labellings _ _ _ 13 [some (.ref r0), some (.int l1), some (.int v3)] [.int v7] g7 P
  refine sw_aload_n dX9_labellings_13 rfl ?_
  refine sw_getf dX9_labellings_14 lf_X9_43 hc9 hv9 ?_
  refine sw_aload_n dX9_labellings_17 rfl ?_
  refine sw_getf dX9_labellings_18 lf_X9_26 hc11 hv11 ?_
  refine sw_iload_n dX9_labellings_21 rfl ?_
  refine sw_cV dX9_labellings_22 lv_X9_275 hm13 hr13 rfl (by decide) rfl rfl rfl (Nat.le_of_ble_eq_true rfl) (fun _ _ => rfl) rfl ?_
  show SW sc m_X9_labellings _ _ _ 25 [some (.ref r0), some (.int l1), some (.int v3)] [.int v13, .int v7] g13 P
  refine sw_cS dX9_labellings_25 ls_X9_245 hm14 rfl rfl (Nat.le_of_ble_eq_true rfl) (fun _ _ => rfl) rfl ?_
  show SW sc m_X9_labellings _ _ _ 28 [some (.ref r0), some (.int l1), some (.int v3)] [.int v14] g14 P
  exact sw_ret (v := (some (.int v14))) dX9_labellings_28 rt_i hP
theorem bx_X9_labellings_0_2 {r0 : Nat} {l1 : Int32} {E : Nat} {g3 : ab_H} {fs3 : List Value} (hr3 : (h)[r0]? = some (9, fs3)) (hm3 : MSX m_X9_neededComponent d [.ref r0, .int l1] h E g3) (hx : ST sc m_X9_labellings (d + 1) rc rs 2 [some (.ref r0), some (.int l1), none] g3 E P) : SW sc m_X9_labellings (d + 1) (rc + 1) (rs + 6) 0 [some (.ref r0), some (.int l1), none] [] h P := by
  refine sw_aload_n dX9_labellings_0 rfl ?_
  refine sw_iload_n dX9_labellings_1 rfl ?_
  exact sw_xV dX9_labellings_2 lv_X9_185 hm3 hr3 rfl (by decide) rfl rfl rfl (Nat.le_of_ble_eq_true rfl) (fun _ _ => rfl) rfl hx
theorem b_X9_withLeaves_0 {r0 : Nat} {l1 : Int32} {l2 : Int32} (kt : l1 < 1 → SW sc m_X9_withLeaves d rc rs 21 [none, none, none] [] h P) (kf : ¬ (l1 < 1) → SW sc m_X9_withLeaves d rc rs 5 [some (.ref r0), some (.int l1), some (.int l2)] [] h P) : SW sc m_X9_withLeaves d rc rs 0 [some (.ref r0), some (.int l1), some (.int l2)] [] h P := by
  refine sw_iload_n dX9_withLeaves_0 rfl ?_
  refine sw_iconst (v := 1) dX9_withLeaves_1 (by decide) ?_
  exact sw_icmp_lt dX9_withLeaves_2 (by decide) (fun q => (sw_fg [true, true, true] rfl (kt q))) (fun q => (kf q))
theorem b_X9_withLeaves_5 {r0 : Nat} {l1 : Int32} {l2 : Int32} (kt : 10 < l1 → SW sc m_X9_withLeaves d rc rs 21 [none, none, none] [] h P) (kf : ¬ (10 < l1) → SW sc m_X9_withLeaves d rc rs 11 [some (.ref r0), some (.int l1), some (.int l2)] [] h P) : SW sc m_X9_withLeaves d rc rs 5 [some (.ref r0), some (.int l1), some (.int l2)] [] h P := by
  refine sw_iload_n dX9_withLeaves_5 rfl ?_
  refine sw_bipush (v := 10) dX9_withLeaves_6 (by decide) ?_
  exact sw_icmp_gt dX9_withLeaves_8 (by decide) (fun q => (sw_fg [true, true, true] rfl (kt q))) (fun q => (kf q))
theorem b_X9_withLeaves_11 {r0 : Nat} {l1 : Int32} {l2 : Int32} (kt : l2 < 0 → SW sc m_X9_withLeaves d rc rs 21 [none, none, none] [] h P) (kf : ¬ (l2 < 0) → SW sc m_X9_withLeaves d rc rs 15 [some (.ref r0), some (.int l1), some (.int l2)] [] h P) : SW sc m_X9_withLeaves d rc rs 11 [some (.ref r0), some (.int l1), some (.int l2)] [] h P := by
  refine sw_iload_n dX9_withLeaves_11 rfl ?_
  exact sw_if_lt dX9_withLeaves_12 (by decide) (fun q => (sw_fg [true, true, true] rfl (kt q))) (fun q => (kf q))
theorem b_X9_withLeaves_15 {r0 : Nat} {l1 : Int32} {l2 : Int32} (kt : l2 ≤ 10 → SW sc m_X9_withLeaves d rc rs 32 [some (.ref r0), some (.int l1), some (.int l2)] [] h P) (kf : ¬ (l2 ≤ 10) → SW sc m_X9_withLeaves d rc rs 21 [none, none, none] [] h P) : SW sc m_X9_withLeaves d rc rs 15 [some (.ref r0), some (.int l1), some (.int l2)] [] h P := by
  refine sw_iload_n dX9_withLeaves_15 rfl ?_
  refine sw_bipush (v := 10) dX9_withLeaves_16 (by decide) ?_
  exact sw_icmp_le dX9_withLeaves_18 (by decide) (fun q => (kt q)) (fun q => (sw_fg [true, true, true] rfl (kf q)))
theorem b_X9_withLeaves_21  (hP : P (.inr 2) h) : SW sc m_X9_withLeaves d (rc + 1) (rs + 6) 21 [none, none, none] [] h P := by
  exact sw_throwW dX9_withLeaves_21 dX9_withLeaves_24 dX9_withLeaves_25 dX9_withLeaves_28 dX9_withLeaves_31 lt_X9_2 sr_X9_278 (Nat.le_of_ble_eq_true rfl) (fun _ _ => rfl) (st_out rfl hP)
theorem b_X9_withLeaves_32 {r0 : Nat} {l1 : Int32} {l2 : Int32} {fs2 : List Value} {a2 : Nat} {v5 : Int32} {g5 : ab_H} {fs5 : List Value} (hc2 : (h)[r0]? = some (9, fs2)) (hv2 : fs2[6]? = some (.ref a2)) (hr5 : (h)[a2]? = some (2, fs5)) (hm5 : MSE m_X2_treesWithLeaves d [.ref a2, .int l1, .int l2] h (some (.int v5)) g5) (hP : P (.inl (some (.int v5))) g5) : SW sc m_X9_withLeaves (d + 1) rc rs 32 [some (.ref r0), some (.int l1), some (.int l2)] [] h P := by
  refine sw_aload_n dX9_withLeaves_32 rfl ?_
  refine sw_getf dX9_withLeaves_33 lf_X9_50 hc2 hv2 ?_
  refine sw_iload_n dX9_withLeaves_36 rfl ?_
  refine sw_iload_n dX9_withLeaves_37 rfl ?_
  refine sw_cV dX9_withLeaves_38 lv_X9_280 hm5 hr5 rfl (by decide) rfl rfl rfl (Nat.le_of_ble_eq_true rfl) (fun _ _ => rfl) rfl ?_
  show SW sc m_X9_withLeaves _ _ _ 41 [some (.ref r0), some (.int l1), some (.int l2)] [.int v5] g5 P
  exact sw_ret (v := (some (.int v5))) dX9_withLeaves_41 rt_i hP
theorem b_X9_classes_0 {r0 : Nat} {l1 : Int32} {l2 : Int32} (kt : l1 < 1 → SW sc m_X9_classes d rc rs 11 [none, none, none] [] h P) (kf : ¬ (l1 < 1) → SW sc m_X9_classes d rc rs 5 [some (.ref r0), some (.int l1), some (.int l2)] [] h P) : SW sc m_X9_classes d rc rs 0 [some (.ref r0), some (.int l1), some (.int l2)] [] h P := by
  refine sw_iload_n dX9_classes_0 rfl ?_
  refine sw_iconst (v := 1) dX9_classes_1 (by decide) ?_
  exact sw_icmp_lt dX9_classes_2 (by decide) (fun q => (sw_fg [true, true, true] rfl (kt q))) (fun q => (kf q))
theorem b_X9_classes_5 {r0 : Nat} {l1 : Int32} {l2 : Int32} (kt : l1 ≤ 10 → SW sc m_X9_classes d rc rs 22 [some (.ref r0), some (.int l1), some (.int l2)] [] h P) (kf : ¬ (l1 ≤ 10) → SW sc m_X9_classes d rc rs 11 [none, none, none] [] h P) : SW sc m_X9_classes d rc rs 5 [some (.ref r0), some (.int l1), some (.int l2)] [] h P := by
  refine sw_iload_n dX9_classes_5 rfl ?_
  refine sw_bipush (v := 10) dX9_classes_6 (by decide) ?_
  exact sw_icmp_le dX9_classes_8 (by decide) (fun q => (kt q)) (fun q => (sw_fg [true, true, true] rfl (kf q)))
theorem b_X9_classes_11  (hP : P (.inr 2) h) : SW sc m_X9_classes d (rc + 1) (rs + 6) 11 [none, none, none] [] h P := by
  exact sw_throwW dX9_classes_11 dX9_classes_14 dX9_classes_15 dX9_classes_18 dX9_classes_21 lt_X9_2 sr_X9_283 (Nat.le_of_ble_eq_true rfl) (fun _ _ => rfl) (st_out rfl hP)
theorem b_X9_classes_22 {r0 : Nat} {l1 : Int32} {l2 : Int32} (kt : l2 = 0 → SW sc m_X9_classes d rc rs 37 [some (.ref r0), some (.int l1), none] [] h P) (kf : ¬ (l2 = 0) → SW sc m_X9_classes d rc rs 26 [some (.ref r0), some (.int l1), none] [] h P) : SW sc m_X9_classes d rc rs 22 [some (.ref r0), some (.int l1), some (.int l2)] [] h P := by
  refine sw_iload_n dX9_classes_22 rfl ?_
  exact sw_if_eq dX9_classes_23 (by decide) (fun q => (sw_fg [false, false, true] rfl (kt q))) (fun q => (sw_fg [false, false, true] rfl (kf q)))
theorem b_X9_classes_26 {r0 : Nat} {l1 : Int32} {fs2 : List Value} {a2 : Nat} {v4 : Int32} {g4 : ab_H} {fs4 : List Value} (hc2 : (h)[r0]? = some (9, fs2)) (hv2 : fs2[6]? = some (.ref a2)) (hr4 : (h)[a2]? = some (2, fs4)) (hm4 : MSE m_X2_rootedClasses d [.ref a2, .int l1] h (some (.int v4)) g4) (k : SW sc m_X9_classes (d + 1) rc rs 45 [none, none, none] [.int v4] g4 P) : SW sc m_X9_classes (d + 1) rc rs 26 [some (.ref r0), some (.int l1), none] [] h P := by
  refine sw_aload_n dX9_classes_26 rfl ?_
  refine sw_getf dX9_classes_27 lf_X9_50 hc2 hv2 ?_
  refine sw_iload_n dX9_classes_30 rfl ?_
  refine sw_cV dX9_classes_31 lv_X9_285 hm4 hr4 rfl (by decide) rfl rfl rfl (Nat.le_of_ble_eq_true rfl) (fun _ _ => rfl) rfl ?_
  show SW sc m_X9_classes _ _ _ 34 [some (.ref r0), some (.int l1), none] [.int v4] g4 P
  exact sw_goto dX9_classes_34 (by decide) (sw_fg [true, true, false] rfl (k))
theorem b_X9_classes_37 {r0 : Nat} {l1 : Int32} {fs2 : List Value} {a2 : Nat} {v4 : Int32} {g4 : ab_H} {fs4 : List Value} (hc2 : (h)[r0]? = some (9, fs2)) (hv2 : fs2[6]? = some (.ref a2)) (hr4 : (h)[a2]? = some (2, fs4)) (hm4 : MSE m_X2_freeClasses d [.ref a2, .int l1] h (some (.int v4)) g4) (k : SW sc m_X9_classes (d + 1) rc rs 45 [none, none, none] [.int v4] g4 P) : SW sc m_X9_classes (d + 1) rc rs 37 [some (.ref r0), some (.int l1), none] [] h P := by
  refine sw_aload_n dX9_classes_37 rfl ?_
  refine sw_getf dX9_classes_38 lf_X9_50 hc2 hv2 ?_
  refine sw_iload_n dX9_classes_41 rfl ?_
  refine sw_cV dX9_classes_42 lv_X9_288 hm4 hr4 rfl (by decide) rfl rfl rfl (Nat.le_of_ble_eq_true rfl) (fun _ _ => rfl) rfl ?_
  show SW sc m_X9_classes _ _ _ 45 [some (.ref r0), some (.int l1), none] [.int v4] g4 P
  exact (sw_fg [true, true, false] rfl (k))
theorem b_X9_classes_45 {s0 : Int32} (hP : P (.inl (some (.int s0))) h) : SW sc m_X9_classes d rc rs 45 [none, none, none] [.int s0] h P := by
  exact sw_ret (v := (some (.int s0))) dX9_classes_45 rt_i hP
theorem b_X9_survey_0 {r0 : Nat} {l1 : Int32} {l2 : Int32} (kt : l1 < 1 → SW sc m_X9_survey d rc rs 20 [none, none, none] [] h P) (kf : ¬ (l1 < 1) → SW sc m_X9_survey d rc rs 5 [some (.ref r0), some (.int l1), some (.int l2)] [] h P) : SW sc m_X9_survey d rc rs 0 [some (.ref r0), some (.int l1), some (.int l2)] [] h P := by
  refine sw_iload_n dX9_survey_0 rfl ?_
  refine sw_iconst (v := 1) dX9_survey_1 (by decide) ?_
  exact sw_icmp_lt dX9_survey_2 (by decide) (fun q => (sw_fg [true, true, true] rfl (kt q))) (fun q => (kf q))
theorem b_X9_survey_5 {r0 : Nat} {l1 : Int32} {l2 : Int32} (kt : 6 < l1 → SW sc m_X9_survey d rc rs 20 [none, none, none] [] h P) (kf : ¬ (6 < l1) → SW sc m_X9_survey d rc rs 11 [some (.ref r0), some (.int l1), some (.int l2)] [] h P) : SW sc m_X9_survey d rc rs 5 [some (.ref r0), some (.int l1), some (.int l2)] [] h P := by
  refine sw_iload_n dX9_survey_5 rfl ?_
  refine sw_bipush (v := 6) dX9_survey_6 (by decide) ?_
  exact sw_icmp_gt dX9_survey_8 (by decide) (fun q => (sw_fg [true, true, true] rfl (kt q))) (fun q => (kf q))
theorem b_X9_survey_11 {r0 : Nat} {l1 : Int32} {l2 : Int32} (kt : l2 < 0 → SW sc m_X9_survey d rc rs 20 [none, none, none] [] h P) (kf : ¬ (l2 < 0) → SW sc m_X9_survey d rc rs 15 [some (.ref r0), some (.int l1), some (.int l2)] [] h P) : SW sc m_X9_survey d rc rs 11 [some (.ref r0), some (.int l1), some (.int l2)] [] h P := by
  refine sw_iload_n dX9_survey_11 rfl ?_
  exact sw_if_lt dX9_survey_12 (by decide) (fun q => (sw_fg [true, true, true] rfl (kt q))) (fun q => (kf q))
theorem b_X9_survey_15 {r0 : Nat} {l1 : Int32} {l2 : Int32} (kt : l2 < 3 → SW sc m_X9_survey d rc rs 31 [some (.ref r0), some (.int l1), some (.int l2)] [] h P) (kf : ¬ (l2 < 3) → SW sc m_X9_survey d rc rs 20 [none, none, none] [] h P) : SW sc m_X9_survey d rc rs 15 [some (.ref r0), some (.int l1), some (.int l2)] [] h P := by
  refine sw_iload_n dX9_survey_15 rfl ?_
  refine sw_iconst (v := 3) dX9_survey_16 (by decide) ?_
  exact sw_icmp_lt dX9_survey_17 (by decide) (fun q => (kt q)) (fun q => (sw_fg [true, true, true] rfl (kf q)))
theorem b_X9_survey_20  (hP : P (.inr 2) h) : SW sc m_X9_survey d (rc + 1) (rs + 6) 20 [none, none, none] [] h P := by
  exact sw_throwW dX9_survey_20 dX9_survey_23 dX9_survey_24 dX9_survey_27 dX9_survey_30 lt_X9_2 sr_X9_291 (Nat.le_of_ble_eq_true rfl) (fun _ _ => rfl) (st_out rfl hP)
theorem b_X9_survey_31 {r0 : Nat} {l1 : Int32} {l2 : Int32} {fs2 : List Value} {a2 : Nat} {g4 : ab_H} {fs4 : List Value} {fs6 : List Value} {a6 : Nat} {v9 : Int32} {g9 : ab_H} {fs9 : List Value} (hc2 : (h)[r0]? = some (9, fs2)) (hv2 : fs2[7]? = some (.ref a2)) (hr4 : (h)[a2]? = some (7, fs4)) (hm4 : MSE m_X7_goThrough d [.ref a2, .int l1] h none g4) (hc6 : (g4)[r0]? = some (9, fs6)) (hv6 : fs6[7]? = some (.ref a6)) (hr9 : (g4)[a6]? = some (7, fs9)) (hm9 : MSE m_X7_answer d [.ref a6, .int l1, .int l2] g4 (some (.int v9)) g9) (hP : P (.inl (some (.int v9))) g9) : SW sc m_X9_survey (d + 1) rc rs 31 [some (.ref r0), some (.int l1), some (.int l2)] [] h P := by
  refine sw_aload_n dX9_survey_31 rfl ?_
  refine sw_getf dX9_survey_32 lf_X9_57 hc2 hv2 ?_
  refine sw_iload_n dX9_survey_35 rfl ?_
  refine sw_cV dX9_survey_36 lv_X9_293 hm4 hr4 rfl (by decide) rfl rfl rfl (Nat.le_of_ble_eq_true rfl) (fun _ _ => rfl) rfl ?_
  show SW sc m_X9_survey _ _ _ 39 [some (.ref r0), some (.int l1), some (.int l2)] [] g4 P
  refine sw_aload_n dX9_survey_39 rfl ?_
  refine sw_getf dX9_survey_40 lf_X9_57 hc6 hv6 ?_
  refine sw_iload_n dX9_survey_43 rfl ?_
  refine sw_iload_n dX9_survey_44 rfl ?_
  refine sw_cV dX9_survey_45 lv_X9_296 hm9 hr9 rfl (by decide) rfl rfl rfl (Nat.le_of_ble_eq_true rfl) (fun _ _ => rfl) rfl ?_
  show SW sc m_X9_survey _ _ _ 48 [some (.ref r0), some (.int l1), some (.int l2)] [.int v9] g9 P
  exact sw_ret (v := (some (.int v9))) dX9_survey_48 rt_i hP
theorem b_X9_link_0 {r0 : Nat} {l1 : Int32} {l2 : Int32} {g3 : ab_H} {fs3 : List Value} {g6 : ab_H} {fs6 : List Value} {v10 : Int32} {g10 : ab_H} {fs10 : List Value} (hr3 : (h)[r0]? = some (9, fs3)) (hm3 : MSE m_X9_needVertex d [.ref r0, .int l1] h none g3) (hr6 : (g3)[r0]? = some (9, fs6)) (hm6 : MSE m_X9_needVertex d [.ref r0, .int l2] g3 none g6) (hr10 : (g6)[r0]? = some (9, fs10)) (hm10 : MSE m_X9_reasonAgainstLink d [.ref r0, .int l1, .int l2] g6 (some (.int v10)) g10) (kt : v10 = 0 → SW sc m_X9_link (d + 1) rc rs 33 [some (.ref r0), some (.int l1), some (.int l2), none] [] g10 P) (kf : ¬ (v10 = 0) → SW sc m_X9_link (d + 1) rc rs 21 [some (.ref r0), none, none, some (.int v10)] [] g10 P) : SW sc m_X9_link (d + 1) rc rs 0 [some (.ref r0), some (.int l1), some (.int l2), none] [] h P := by
  refine sw_aload_n dX9_link_0 rfl ?_
  refine sw_iload_n dX9_link_1 rfl ?_
  refine sw_cV dX9_link_2 lv_X9_146 hm3 hr3 rfl (by decide) rfl rfl rfl (Nat.le_of_ble_eq_true rfl) (fun _ _ => rfl) rfl ?_
  show SW sc m_X9_link _ _ _ 5 [some (.ref r0), some (.int l1), some (.int l2), none] [] g3 P
  refine sw_aload_n dX9_link_5 rfl ?_
  refine sw_iload_n dX9_link_6 rfl ?_
  refine sw_cV dX9_link_7 lv_X9_146 hm6 hr6 rfl (by decide) rfl rfl rfl (Nat.le_of_ble_eq_true rfl) (fun _ _ => rfl) rfl ?_
  show SW sc m_X9_link _ _ _ 10 [some (.ref r0), some (.int l1), some (.int l2), none] [] g6 P
  refine sw_aload_n dX9_link_10 rfl ?_
  refine sw_iload_n dX9_link_11 rfl ?_
  refine sw_iload_n dX9_link_12 rfl ?_
  refine sw_cV dX9_link_13 lv_X9_299 hm10 hr10 rfl (by decide) rfl rfl rfl (Nat.le_of_ble_eq_true rfl) (fun _ _ => rfl) rfl ?_
  show SW sc m_X9_link _ _ _ 16 [some (.ref r0), some (.int l1), some (.int l2), none] [.int v10] g10 P
  refine sw_istore_n dX9_link_16 (by decide) rfl ?_
  show SW sc m_X9_link _ _ _ 17 [some (.ref r0), some (.int l1), some (.int l2), some (.int v10)] [] g10 P
  refine sw_iload_n dX9_link_17 rfl ?_
  exact sw_if_eq dX9_link_18 (by decide) (fun q => (sw_fg [false, false, false, true] rfl (kt q))) (fun q => (sw_fg [false, true, true, false] rfl (kf q)))
theorem bx_X9_link_0_2 {r0 : Nat} {l1 : Int32} {l2 : Int32} {E : Nat} {g3 : ab_H} {fs3 : List Value} (hr3 : (h)[r0]? = some (9, fs3)) (hm3 : MSX m_X9_needVertex d [.ref r0, .int l1] h E g3) (hx : ST sc m_X9_link (d + 1) rc rs 2 [some (.ref r0), some (.int l1), some (.int l2), none] g3 E P) : SW sc m_X9_link (d + 1) (rc + 1) (rs + 6) 0 [some (.ref r0), some (.int l1), some (.int l2), none] [] h P := by
  refine sw_aload_n dX9_link_0 rfl ?_
  refine sw_iload_n dX9_link_1 rfl ?_
  exact sw_xV dX9_link_2 lv_X9_146 hm3 hr3 rfl (by decide) rfl rfl rfl (Nat.le_of_ble_eq_true rfl) (fun _ _ => rfl) rfl hx
theorem bx_X9_link_0_7 {r0 : Nat} {l1 : Int32} {l2 : Int32} {g3 : ab_H} {fs3 : List Value} {E : Nat} {g6 : ab_H} {fs6 : List Value} (hr3 : (h)[r0]? = some (9, fs3)) (hm3 : MSE m_X9_needVertex d [.ref r0, .int l1] h none g3) (hr6 : (g3)[r0]? = some (9, fs6)) (hm6 : MSX m_X9_needVertex d [.ref r0, .int l2] g3 E g6) (hx : ST sc m_X9_link (d + 1) rc rs 7 [some (.ref r0), some (.int l1), some (.int l2), none] g6 E P) : SW sc m_X9_link (d + 1) (rc + 1) (rs + 6) 0 [some (.ref r0), some (.int l1), some (.int l2), none] [] h P := by
  refine sw_aload_n dX9_link_0 rfl ?_
  refine sw_iload_n dX9_link_1 rfl ?_
  refine sw_cV dX9_link_2 lv_X9_146 hm3 hr3 rfl (by decide) rfl rfl rfl (Nat.le_of_ble_eq_true rfl) (fun _ _ => rfl) rfl ?_
  show SW sc m_X9_link _ _ _ 5 [some (.ref r0), some (.int l1), some (.int l2), none] [] g3 P
  refine sw_aload_n dX9_link_5 rfl ?_
  refine sw_iload_n dX9_link_6 rfl ?_
  exact sw_xV dX9_link_7 lv_X9_146 hm6 hr6 rfl (by decide) rfl rfl rfl (Nat.le_of_ble_eq_true rfl) (fun _ _ => rfl) rfl hx
theorem b_X9_link_21 {r0 : Nat} {l3 : Int32} {fs2 : List Value} {a2 : Nat} {vs5 : List Value} {x5 : Int32} {vs8 : List Value} (hc2 : (h)[r0]? = some (9, fs2)) (hv2 : fs2[9]? = some (.ref a2)) (hc5 : (h)[a2]? = some (100, vs5)) (ho5 : ¬ 5 < 0) (hi5 : vs5[(5 : Int32).toNatClampNeg]? = some (.int x5)) (hc8 : (h)[a2]? = some (100, vs8)) (ho8 : ¬ 5 < 0) (hl8 : (5 : Int32).toNatClampNeg < vs8.length) (hP : P (.inl (some (.int l3))) ((h).set a2 (100, vs8.set (5 : Int32).toNatClampNeg (.int (x5 + 1))))) : SW sc m_X9_link d rc rs 21 [some (.ref r0), none, none, some (.int l3)] [] h P := by
  refine sw_aload_n dX9_link_21 rfl ?_
  refine sw_getf dX9_link_22 lf_X9_68 hc2 hv2 ?_
  refine sw_iconst (v := 5) dX9_link_25 (by decide) ?_
  refine sw_dup2 dX9_link_26 (fun _ _ => rfl) (fun _ _ => rfl) ?_
  refine sw_iald dX9_link_27 hc5 ho5 hi5 ?_
  refine sw_iconst (v := 1) dX9_link_28 (by decide) ?_
  refine sw_iadd dX9_link_29 ?_
  refine sw_iast dX9_link_30 hc8 ho8 hl8 ?_
  refine sw_iload_n dX9_link_31 rfl ?_
  exact sw_ret (v := (some (.int l3))) dX9_link_32 rt_i hP
theorem b_X9_link_33 {r0 : Nat} {l1 : Int32} {l2 : Int32} {fs2 : List Value} {a2 : Nat} {fs4 : List Value} {a4 : Nat} {v5 : Nat} {g5 : ab_H} {fs5 : List Value} {fs8 : List Value} {a8 : Nat} {g11 : ab_H} {fs11 : List Value} {fs13 : List Value} {a13 : Nat} {vs16 : List Value} {x16 : Int32} {vs19 : List Value} (hc2 : (h)[r0]? = some (9, fs2)) (hv2 : fs2[8]? = some (.ref a2)) (hc4 : (h)[r0]? = some (9, fs4)) (hv4 : fs4[2]? = some (.ref a4)) (hr5 : (h)[a2]? = some (5, fs5)) (hm5 : MSE m_X5_record d [.ref a2, .ref a4] h (some (.ref v5)) g5) (hc8 : (g5)[r0]? = some (9, fs8)) (hv8 : fs8[2]? = some (.ref a8)) (hr11 : (g5)[a8]? = some (3, fs11)) (hm11 : MSE m_X3_join d [.ref a8, .int l1, .int l2] g5 none g11) (hc13 : (g11)[r0]? = some (9, fs13)) (hv13 : fs13[9]? = some (.ref a13)) (hc16 : (g11)[a13]? = some (100, vs16)) (ho16 : ¬ 0 < 0) (hi16 : vs16[(0 : Int32).toNatClampNeg]? = some (.int x16)) (hc19 : (g11)[a13]? = some (100, vs19)) (ho19 : ¬ 0 < 0) (hl19 : (0 : Int32).toNatClampNeg < vs19.length) (hP : P (.inl (some (.int 0))) ((g11).set a13 (100, vs19.set (0 : Int32).toNatClampNeg (.int (x16 + 1))))) : SW sc m_X9_link (d + 1) rc rs 33 [some (.ref r0), some (.int l1), some (.int l2), none] [] h P := by
  refine sw_aload_n dX9_link_33 rfl ?_
  refine sw_getf dX9_link_34 lf_X9_64 hc2 hv2 ?_
  refine sw_aload_n dX9_link_37 rfl ?_
  refine sw_getf dX9_link_38 lf_X9_26 hc4 hv4 ?_
  refine sw_cV dX9_link_41 lv_X9_302 hm5 hr5 rfl (by decide) rfl rfl rfl (Nat.le_of_ble_eq_true rfl) (fun _ _ => rfl) rfl ?_
  show SW sc m_X9_link _ _ _ 44 [some (.ref r0), some (.int l1), some (.int l2), none] [.ref v5] g5 P
  refine sw_pop dX9_link_44 (fun _ _ => rfl) ?_
  refine sw_aload_n dX9_link_45 rfl ?_
  refine sw_getf dX9_link_46 lf_X9_26 hc8 hv8 ?_
  refine sw_iload_n dX9_link_49 rfl ?_
  refine sw_iload_n dX9_link_50 rfl ?_
  refine sw_cV dX9_link_51 lv_X9_306 hm11 hr11 rfl (by decide) rfl rfl rfl (Nat.le_of_ble_eq_true rfl) (fun _ _ => rfl) rfl ?_
  show SW sc m_X9_link _ _ _ 54 [some (.ref r0), some (.int l1), some (.int l2), none] [] g11 P
  refine sw_aload_n dX9_link_54 rfl ?_
  refine sw_getf dX9_link_55 lf_X9_68 hc13 hv13 ?_
  refine sw_iconst (v := 0) dX9_link_58 (by decide) ?_
  refine sw_dup2 dX9_link_59 (fun _ _ => rfl) (fun _ _ => rfl) ?_
  refine sw_iald dX9_link_60 hc16 ho16 hi16 ?_
  refine sw_iconst (v := 1) dX9_link_61 (by decide) ?_
  refine sw_iadd dX9_link_62 ?_
  refine sw_iast dX9_link_63 hc19 ho19 hl19 ?_
  refine sw_iconst (v := 0) dX9_link_64 (by decide) ?_
  exact sw_ret (v := (some (.int 0))) dX9_link_65 rt_i hP
theorem b_X9_cut_0 {r0 : Nat} {l1 : Int32} {l2 : Int32} {g3 : ab_H} {fs3 : List Value} {g6 : ab_H} {fs6 : List Value} {fs8 : List Value} {a8 : Nat} {v11 : Int32} {g11 : ab_H} {fs11 : List Value} (hr3 : (h)[r0]? = some (9, fs3)) (hm3 : MSE m_X9_needVertex d [.ref r0, .int l1] h none g3) (hr6 : (g3)[r0]? = some (9, fs6)) (hm6 : MSE m_X9_needVertex d [.ref r0, .int l2] g3 none g6) (hc8 : (g6)[r0]? = some (9, fs8)) (hv8 : fs8[2]? = some (.ref a8)) (hr11 : (g6)[a8]? = some (3, fs11)) (hm11 : MSE m_X3_hasEdge d [.ref a8, .int l1, .int l2] g6 (some (.int v11)) g11) (kt : ¬ v11 = 0 → SW sc m_X9_cut (d + 1) rc rs 35 [some (.ref r0), some (.int l1), some (.int l2)] [] g11 P) (kf : v11 = 0 → SW sc m_X9_cut (d + 1) rc rs 22 [some (.ref r0), none, none] [] g11 P) : SW sc m_X9_cut (d + 1) rc rs 0 [some (.ref r0), some (.int l1), some (.int l2)] [] h P := by
  refine sw_aload_n dX9_cut_0 rfl ?_
  refine sw_iload_n dX9_cut_1 rfl ?_
  refine sw_cV dX9_cut_2 lv_X9_146 hm3 hr3 rfl (by decide) rfl rfl rfl (Nat.le_of_ble_eq_true rfl) (fun _ _ => rfl) rfl ?_
  show SW sc m_X9_cut _ _ _ 5 [some (.ref r0), some (.int l1), some (.int l2)] [] g3 P
  refine sw_aload_n dX9_cut_5 rfl ?_
  refine sw_iload_n dX9_cut_6 rfl ?_
  refine sw_cV dX9_cut_7 lv_X9_146 hm6 hr6 rfl (by decide) rfl rfl rfl (Nat.le_of_ble_eq_true rfl) (fun _ _ => rfl) rfl ?_
  show SW sc m_X9_cut _ _ _ 10 [some (.ref r0), some (.int l1), some (.int l2)] [] g6 P
  refine sw_aload_n dX9_cut_10 rfl ?_
  refine sw_getf dX9_cut_11 lf_X9_26 hc8 hv8 ?_
  refine sw_iload_n dX9_cut_14 rfl ?_
  refine sw_iload_n dX9_cut_15 rfl ?_
  refine sw_cV dX9_cut_16 lv_X9_263 hm11 hr11 rfl (by decide) rfl rfl rfl (Nat.le_of_ble_eq_true rfl) (fun _ _ => rfl) rfl ?_
  show SW sc m_X9_cut _ _ _ 19 [some (.ref r0), some (.int l1), some (.int l2)] [.int v11] g11 P
  exact sw_if_ne dX9_cut_19 (by decide) (fun q => (kt q)) (fun q => (sw_fg [false, true, true] rfl (kf q)))
theorem bx_X9_cut_0_2 {r0 : Nat} {l1 : Int32} {l2 : Int32} {E : Nat} {g3 : ab_H} {fs3 : List Value} (hr3 : (h)[r0]? = some (9, fs3)) (hm3 : MSX m_X9_needVertex d [.ref r0, .int l1] h E g3) (hx : ST sc m_X9_cut (d + 1) rc rs 2 [some (.ref r0), some (.int l1), some (.int l2)] g3 E P) : SW sc m_X9_cut (d + 1) (rc + 1) (rs + 6) 0 [some (.ref r0), some (.int l1), some (.int l2)] [] h P := by
  refine sw_aload_n dX9_cut_0 rfl ?_
  refine sw_iload_n dX9_cut_1 rfl ?_
  exact sw_xV dX9_cut_2 lv_X9_146 hm3 hr3 rfl (by decide) rfl rfl rfl (Nat.le_of_ble_eq_true rfl) (fun _ _ => rfl) rfl hx
theorem bx_X9_cut_0_7 {r0 : Nat} {l1 : Int32} {l2 : Int32} {g3 : ab_H} {fs3 : List Value} {E : Nat} {g6 : ab_H} {fs6 : List Value} (hr3 : (h)[r0]? = some (9, fs3)) (hm3 : MSE m_X9_needVertex d [.ref r0, .int l1] h none g3) (hr6 : (g3)[r0]? = some (9, fs6)) (hm6 : MSX m_X9_needVertex d [.ref r0, .int l2] g3 E g6) (hx : ST sc m_X9_cut (d + 1) rc rs 7 [some (.ref r0), some (.int l1), some (.int l2)] g6 E P) : SW sc m_X9_cut (d + 1) (rc + 1) (rs + 6) 0 [some (.ref r0), some (.int l1), some (.int l2)] [] h P := by
  refine sw_aload_n dX9_cut_0 rfl ?_
  refine sw_iload_n dX9_cut_1 rfl ?_
  refine sw_cV dX9_cut_2 lv_X9_146 hm3 hr3 rfl (by decide) rfl rfl rfl (Nat.le_of_ble_eq_true rfl) (fun _ _ => rfl) rfl ?_
  show SW sc m_X9_cut _ _ _ 5 [some (.ref r0), some (.int l1), some (.int l2)] [] g3 P
  refine sw_aload_n dX9_cut_5 rfl ?_
  refine sw_iload_n dX9_cut_6 rfl ?_
  exact sw_xV dX9_cut_7 lv_X9_146 hm6 hr6 rfl (by decide) rfl rfl rfl (Nat.le_of_ble_eq_true rfl) (fun _ _ => rfl) rfl hx
theorem b_X9_cut_22 {r0 : Nat} {fs2 : List Value} {a2 : Nat} {vs5 : List Value} {x5 : Int32} {vs8 : List Value} (hc2 : (h)[r0]? = some (9, fs2)) (hv2 : fs2[9]? = some (.ref a2)) (hc5 : (h)[a2]? = some (100, vs5)) (ho5 : ¬ 6 < 0) (hi5 : vs5[(6 : Int32).toNatClampNeg]? = some (.int x5)) (hc8 : (h)[a2]? = some (100, vs8)) (ho8 : ¬ 6 < 0) (hl8 : (6 : Int32).toNatClampNeg < vs8.length) (hP : P (.inl (some (.int 0))) ((h).set a2 (100, vs8.set (6 : Int32).toNatClampNeg (.int (x5 + 1))))) : SW sc m_X9_cut d rc rs 22 [some (.ref r0), none, none] [] h P := by
  refine sw_aload_n dX9_cut_22 rfl ?_
  refine sw_getf dX9_cut_23 lf_X9_68 hc2 hv2 ?_
  refine sw_bipush (v := 6) dX9_cut_26 (by decide) ?_
  refine sw_dup2 dX9_cut_28 (fun _ _ => rfl) (fun _ _ => rfl) ?_
  refine sw_iald dX9_cut_29 hc5 ho5 hi5 ?_
  refine sw_iconst (v := 1) dX9_cut_30 (by decide) ?_
  refine sw_iadd dX9_cut_31 ?_
  refine sw_iast dX9_cut_32 hc8 ho8 hl8 ?_
  refine sw_iconst (v := 0) dX9_cut_33 (by decide) ?_
  exact sw_ret (v := (some (.int 0))) dX9_cut_34 (rt_n (by decide)) hP
theorem b_X9_cut_35 {r0 : Nat} {l1 : Int32} {l2 : Int32} {fs2 : List Value} {a2 : Nat} {fs4 : List Value} {a4 : Nat} {v5 : Nat} {g5 : ab_H} {fs5 : List Value} {fs8 : List Value} {a8 : Nat} {g11 : ab_H} {fs11 : List Value} {fs13 : List Value} {a13 : Nat} {vs16 : List Value} {x16 : Int32} {vs19 : List Value} (hc2 : (h)[r0]? = some (9, fs2)) (hv2 : fs2[8]? = some (.ref a2)) (hc4 : (h)[r0]? = some (9, fs4)) (hv4 : fs4[2]? = some (.ref a4)) (hr5 : (h)[a2]? = some (5, fs5)) (hm5 : MSE m_X5_record d [.ref a2, .ref a4] h (some (.ref v5)) g5) (hc8 : (g5)[r0]? = some (9, fs8)) (hv8 : fs8[2]? = some (.ref a8)) (hr11 : (g5)[a8]? = some (3, fs11)) (hm11 : MSE m_X3_part d [.ref a8, .int l1, .int l2] g5 none g11) (hc13 : (g11)[r0]? = some (9, fs13)) (hv13 : fs13[9]? = some (.ref a13)) (hc16 : (g11)[a13]? = some (100, vs16)) (ho16 : ¬ 1 < 0) (hi16 : vs16[(1 : Int32).toNatClampNeg]? = some (.int x16)) (hc19 : (g11)[a13]? = some (100, vs19)) (ho19 : ¬ 1 < 0) (hl19 : (1 : Int32).toNatClampNeg < vs19.length) (hP : P (.inl (some (.int 1))) ((g11).set a13 (100, vs19.set (1 : Int32).toNatClampNeg (.int (x16 + 1))))) : SW sc m_X9_cut (d + 1) rc rs 35 [some (.ref r0), some (.int l1), some (.int l2)] [] h P := by
  refine sw_aload_n dX9_cut_35 rfl ?_
  refine sw_getf dX9_cut_36 lf_X9_64 hc2 hv2 ?_
  refine sw_aload_n dX9_cut_39 rfl ?_
  refine sw_getf dX9_cut_40 lf_X9_26 hc4 hv4 ?_
  refine sw_cV dX9_cut_43 lv_X9_302 hm5 hr5 rfl (by decide) rfl rfl rfl (Nat.le_of_ble_eq_true rfl) (fun _ _ => rfl) rfl ?_
  show SW sc m_X9_cut _ _ _ 46 [some (.ref r0), some (.int l1), some (.int l2)] [.ref v5] g5 P
  refine sw_pop dX9_cut_46 (fun _ _ => rfl) ?_
  refine sw_aload_n dX9_cut_47 rfl ?_
  refine sw_getf dX9_cut_48 lf_X9_26 hc8 hv8 ?_
  refine sw_iload_n dX9_cut_51 rfl ?_
  refine sw_iload_n dX9_cut_52 rfl ?_
  refine sw_cV dX9_cut_53 lv_X9_310 hm11 hr11 rfl (by decide) rfl rfl rfl (Nat.le_of_ble_eq_true rfl) (fun _ _ => rfl) rfl ?_
  show SW sc m_X9_cut _ _ _ 56 [some (.ref r0), some (.int l1), some (.int l2)] [] g11 P
  refine sw_aload_n dX9_cut_56 rfl ?_
  refine sw_getf dX9_cut_57 lf_X9_68 hc13 hv13 ?_
  refine sw_iconst (v := 1) dX9_cut_60 (by decide) ?_
  refine sw_dup2 dX9_cut_61 (fun _ _ => rfl) (fun _ _ => rfl) ?_
  refine sw_iald dX9_cut_62 hc16 ho16 hi16 ?_
  refine sw_iconst (v := 1) dX9_cut_63 (by decide) ?_
  refine sw_iadd dX9_cut_64 ?_
  refine sw_iast dX9_cut_65 hc19 ho19 hl19 ?_
  refine sw_iconst (v := 1) dX9_cut_66 (by decide) ?_
  exact sw_ret (v := (some (.int 1))) dX9_cut_67 (rt_n (by decide)) hP
theorem b_X9_regraft_0 {r0 : Nat} {l1 : Int32} {l2 : Int32} {l3 : Int32} {g3 : ab_H} {fs3 : List Value} {g6 : ab_H} {fs6 : List Value} {g9 : ab_H} {fs9 : List Value} {v14 : Int32} {g14 : ab_H} {fs14 : List Value} (hr3 : (h)[r0]? = some (9, fs3)) (hm3 : MSE m_X9_needVertex d [.ref r0, .int l1] h none g3) (hr6 : (g3)[r0]? = some (9, fs6)) (hm6 : MSE m_X9_needVertex d [.ref r0, .int l2] g3 none g6) (hr9 : (g6)[r0]? = some (9, fs9)) (hm9 : MSE m_X9_needVertex d [.ref r0, .int l3] g6 none g9) (hr14 : (g9)[r0]? = some (9, fs14)) (hm14 : MSE m_X9_reasonAgainstRegraft d [.ref r0, .int l1, .int l2, .int l3] g9 (some (.int v14)) g14) (kt : v14 = 0 → SW sc m_X9_regraft (d + 1) rc rs 43 [some (.ref r0), some (.int l1), some (.int l2), some (.int l3), none] [] g14 P) (kf : ¬ (v14 = 0) → SW sc m_X9_regraft (d + 1) rc rs 29 [some (.ref r0), none, none, none, some (.int v14)] [] g14 P) : SW sc m_X9_regraft (d + 1) rc rs 0 [some (.ref r0), some (.int l1), some (.int l2), some (.int l3), none] [] h P := by
  refine sw_aload_n dX9_regraft_0 rfl ?_
  refine sw_iload_n dX9_regraft_1 rfl ?_
  refine sw_cV dX9_regraft_2 lv_X9_146 hm3 hr3 rfl (by decide) rfl rfl rfl (Nat.le_of_ble_eq_true rfl) (fun _ _ => rfl) rfl ?_
  show SW sc m_X9_regraft _ _ _ 5 [some (.ref r0), some (.int l1), some (.int l2), some (.int l3), none] [] g3 P
  refine sw_aload_n dX9_regraft_5 rfl ?_
  refine sw_iload_n dX9_regraft_6 rfl ?_
  refine sw_cV dX9_regraft_7 lv_X9_146 hm6 hr6 rfl (by decide) rfl rfl rfl (Nat.le_of_ble_eq_true rfl) (fun _ _ => rfl) rfl ?_
  show SW sc m_X9_regraft _ _ _ 10 [some (.ref r0), some (.int l1), some (.int l2), some (.int l3), none] [] g6 P
  refine sw_aload_n dX9_regraft_10 rfl ?_
  refine sw_iload_n dX9_regraft_11 rfl ?_
  refine sw_cV dX9_regraft_12 lv_X9_146 hm9 hr9 rfl (by decide) rfl rfl rfl (Nat.le_of_ble_eq_true rfl) (fun _ _ => rfl) rfl ?_
  show SW sc m_X9_regraft _ _ _ 15 [some (.ref r0), some (.int l1), some (.int l2), some (.int l3), none] [] g9 P
  refine sw_aload_n dX9_regraft_15 rfl ?_
  refine sw_iload_n dX9_regraft_16 rfl ?_
  refine sw_iload_n dX9_regraft_17 rfl ?_
  refine sw_iload_n dX9_regraft_18 rfl ?_
  refine sw_cV dX9_regraft_19 lv_X9_313 hm14 hr14 rfl (by decide) rfl rfl rfl (Nat.le_of_ble_eq_true rfl) (fun _ _ => rfl) rfl ?_
  show SW sc m_X9_regraft _ _ _ 22 [some (.ref r0), some (.int l1), some (.int l2), some (.int l3), none] [.int v14] g14 P
  refine sw_istore dX9_regraft_22 (by decide) rfl ?_
  show SW sc m_X9_regraft _ _ _ 24 [some (.ref r0), some (.int l1), some (.int l2), some (.int l3), some (.int v14)] [] g14 P
  refine sw_iload dX9_regraft_24 rfl ?_
  exact sw_if_eq dX9_regraft_26 (by decide) (fun q => (sw_fg [false, false, false, false, true] rfl (kt q))) (fun q => (sw_fg [false, true, true, true, false] rfl (kf q)))
theorem bx_X9_regraft_0_2 {r0 : Nat} {l1 : Int32} {l2 : Int32} {l3 : Int32} {E : Nat} {g3 : ab_H} {fs3 : List Value} (hr3 : (h)[r0]? = some (9, fs3)) (hm3 : MSX m_X9_needVertex d [.ref r0, .int l1] h E g3) (hx : ST sc m_X9_regraft (d + 1) rc rs 2 [some (.ref r0), some (.int l1), some (.int l2), some (.int l3), none] g3 E P) : SW sc m_X9_regraft (d + 1) (rc + 1) (rs + 6) 0 [some (.ref r0), some (.int l1), some (.int l2), some (.int l3), none] [] h P := by
  refine sw_aload_n dX9_regraft_0 rfl ?_
  refine sw_iload_n dX9_regraft_1 rfl ?_
  exact sw_xV dX9_regraft_2 lv_X9_146 hm3 hr3 rfl (by decide) rfl rfl rfl (Nat.le_of_ble_eq_true rfl) (fun _ _ => rfl) rfl hx
theorem bx_X9_regraft_0_7 {r0 : Nat} {l1 : Int32} {l2 : Int32} {l3 : Int32} {g3 : ab_H} {fs3 : List Value} {E : Nat} {g6 : ab_H} {fs6 : List Value} (hr3 : (h)[r0]? = some (9, fs3)) (hm3 : MSE m_X9_needVertex d [.ref r0, .int l1] h none g3) (hr6 : (g3)[r0]? = some (9, fs6)) (hm6 : MSX m_X9_needVertex d [.ref r0, .int l2] g3 E g6) (hx : ST sc m_X9_regraft (d + 1) rc rs 7 [some (.ref r0), some (.int l1), some (.int l2), some (.int l3), none] g6 E P) : SW sc m_X9_regraft (d + 1) (rc + 1) (rs + 6) 0 [some (.ref r0), some (.int l1), some (.int l2), some (.int l3), none] [] h P := by
  refine sw_aload_n dX9_regraft_0 rfl ?_
  refine sw_iload_n dX9_regraft_1 rfl ?_
  refine sw_cV dX9_regraft_2 lv_X9_146 hm3 hr3 rfl (by decide) rfl rfl rfl (Nat.le_of_ble_eq_true rfl) (fun _ _ => rfl) rfl ?_
  show SW sc m_X9_regraft _ _ _ 5 [some (.ref r0), some (.int l1), some (.int l2), some (.int l3), none] [] g3 P
  refine sw_aload_n dX9_regraft_5 rfl ?_
  refine sw_iload_n dX9_regraft_6 rfl ?_
  exact sw_xV dX9_regraft_7 lv_X9_146 hm6 hr6 rfl (by decide) rfl rfl rfl (Nat.le_of_ble_eq_true rfl) (fun _ _ => rfl) rfl hx
theorem bx_X9_regraft_0_12 {r0 : Nat} {l1 : Int32} {l2 : Int32} {l3 : Int32} {g3 : ab_H} {fs3 : List Value} {g6 : ab_H} {fs6 : List Value} {E : Nat} {g9 : ab_H} {fs9 : List Value} (hr3 : (h)[r0]? = some (9, fs3)) (hm3 : MSE m_X9_needVertex d [.ref r0, .int l1] h none g3) (hr6 : (g3)[r0]? = some (9, fs6)) (hm6 : MSE m_X9_needVertex d [.ref r0, .int l2] g3 none g6) (hr9 : (g6)[r0]? = some (9, fs9)) (hm9 : MSX m_X9_needVertex d [.ref r0, .int l3] g6 E g9) (hx : ST sc m_X9_regraft (d + 1) rc rs 12 [some (.ref r0), some (.int l1), some (.int l2), some (.int l3), none] g9 E P) : SW sc m_X9_regraft (d + 1) (rc + 1) (rs + 6) 0 [some (.ref r0), some (.int l1), some (.int l2), some (.int l3), none] [] h P := by
  refine sw_aload_n dX9_regraft_0 rfl ?_
  refine sw_iload_n dX9_regraft_1 rfl ?_
  refine sw_cV dX9_regraft_2 lv_X9_146 hm3 hr3 rfl (by decide) rfl rfl rfl (Nat.le_of_ble_eq_true rfl) (fun _ _ => rfl) rfl ?_
  show SW sc m_X9_regraft _ _ _ 5 [some (.ref r0), some (.int l1), some (.int l2), some (.int l3), none] [] g3 P
  refine sw_aload_n dX9_regraft_5 rfl ?_
  refine sw_iload_n dX9_regraft_6 rfl ?_
  refine sw_cV dX9_regraft_7 lv_X9_146 hm6 hr6 rfl (by decide) rfl rfl rfl (Nat.le_of_ble_eq_true rfl) (fun _ _ => rfl) rfl ?_
  show SW sc m_X9_regraft _ _ _ 10 [some (.ref r0), some (.int l1), some (.int l2), some (.int l3), none] [] g6 P
  refine sw_aload_n dX9_regraft_10 rfl ?_
  refine sw_iload_n dX9_regraft_11 rfl ?_
  exact sw_xV dX9_regraft_12 lv_X9_146 hm9 hr9 rfl (by decide) rfl rfl rfl (Nat.le_of_ble_eq_true rfl) (fun _ _ => rfl) rfl hx
theorem b_X9_regraft_29 {r0 : Nat} {l4 : Int32} {fs2 : List Value} {a2 : Nat} {vs5 : List Value} {x5 : Int32} {vs8 : List Value} (hc2 : (h)[r0]? = some (9, fs2)) (hv2 : fs2[9]? = some (.ref a2)) (hc5 : (h)[a2]? = some (100, vs5)) (ho5 : ¬ 7 < 0) (hi5 : vs5[(7 : Int32).toNatClampNeg]? = some (.int x5)) (hc8 : (h)[a2]? = some (100, vs8)) (ho8 : ¬ 7 < 0) (hl8 : (7 : Int32).toNatClampNeg < vs8.length) (hP : P (.inl (some (.int l4))) ((h).set a2 (100, vs8.set (7 : Int32).toNatClampNeg (.int (x5 + 1))))) : SW sc m_X9_regraft d rc rs 29 [some (.ref r0), none, none, none, some (.int l4)] [] h P := by
  refine sw_aload_n dX9_regraft_29 rfl ?_
  refine sw_getf dX9_regraft_30 lf_X9_68 hc2 hv2 ?_
  refine sw_bipush (v := 7) dX9_regraft_33 (by decide) ?_
  refine sw_dup2 dX9_regraft_35 (fun _ _ => rfl) (fun _ _ => rfl) ?_
  refine sw_iald dX9_regraft_36 hc5 ho5 hi5 ?_
  refine sw_iconst (v := 1) dX9_regraft_37 (by decide) ?_
  refine sw_iadd dX9_regraft_38 ?_
  refine sw_iast dX9_regraft_39 hc8 ho8 hl8 ?_
  refine sw_iload dX9_regraft_40 rfl ?_
  exact sw_ret (v := (some (.int l4))) dX9_regraft_42 rt_i hP
theorem b_X9_regraft_43 {r0 : Nat} {l1 : Int32} {l2 : Int32} {l3 : Int32} {fs2 : List Value} {a2 : Nat} {fs4 : List Value} {a4 : Nat} {v5 : Nat} {g5 : ab_H} {fs5 : List Value} {fs8 : List Value} {a8 : Nat} {g11 : ab_H} {fs11 : List Value} {fs13 : List Value} {a13 : Nat} {g16 : ab_H} {fs16 : List Value} {fs18 : List Value} {a18 : Nat} {vs21 : List Value} {x21 : Int32} {vs24 : List Value} (hc2 : (h)[r0]? = some (9, fs2)) (hv2 : fs2[8]? = some (.ref a2)) (hc4 : (h)[r0]? = some (9, fs4)) (hv4 : fs4[2]? = some (.ref a4)) (hr5 : (h)[a2]? = some (5, fs5)) (hm5 : MSE m_X5_record d [.ref a2, .ref a4] h (some (.ref v5)) g5) (hc8 : (g5)[r0]? = some (9, fs8)) (hv8 : fs8[2]? = some (.ref a8)) (hr11 : (g5)[a8]? = some (3, fs11)) (hm11 : MSE m_X3_part d [.ref a8, .int l1, .int l2] g5 none g11) (hc13 : (g11)[r0]? = some (9, fs13)) (hv13 : fs13[2]? = some (.ref a13)) (hr16 : (g11)[a13]? = some (3, fs16)) (hm16 : MSE m_X3_join d [.ref a13, .int l1, .int l3] g11 none g16) (hc18 : (g16)[r0]? = some (9, fs18)) (hv18 : fs18[9]? = some (.ref a18)) (hc21 : (g16)[a18]? = some (100, vs21)) (ho21 : ¬ 2 < 0) (hi21 : vs21[(2 : Int32).toNatClampNeg]? = some (.int x21)) (hc24 : (g16)[a18]? = some (100, vs24)) (ho24 : ¬ 2 < 0) (hl24 : (2 : Int32).toNatClampNeg < vs24.length) (hP : P (.inl (some (.int 0))) ((g16).set a18 (100, vs24.set (2 : Int32).toNatClampNeg (.int (x21 + 1))))) : SW sc m_X9_regraft (d + 1) rc rs 43 [some (.ref r0), some (.int l1), some (.int l2), some (.int l3), none] [] h P := by
  refine sw_aload_n dX9_regraft_43 rfl ?_
  refine sw_getf dX9_regraft_44 lf_X9_64 hc2 hv2 ?_
  refine sw_aload_n dX9_regraft_47 rfl ?_
  refine sw_getf dX9_regraft_48 lf_X9_26 hc4 hv4 ?_
  refine sw_cV dX9_regraft_51 lv_X9_302 hm5 hr5 rfl (by decide) rfl rfl rfl (Nat.le_of_ble_eq_true rfl) (fun _ _ => rfl) rfl ?_
  show SW sc m_X9_regraft _ _ _ 54 [some (.ref r0), some (.int l1), some (.int l2), some (.int l3), none] [.ref v5] g5 P
  refine sw_pop dX9_regraft_54 (fun _ _ => rfl) ?_
  refine sw_aload_n dX9_regraft_55 rfl ?_
  refine sw_getf dX9_regraft_56 lf_X9_26 hc8 hv8 ?_
  refine sw_iload_n dX9_regraft_59 rfl ?_
  refine sw_iload_n dX9_regraft_60 rfl ?_
  refine sw_cV dX9_regraft_61 lv_X9_310 hm11 hr11 rfl (by decide) rfl rfl rfl (Nat.le_of_ble_eq_true rfl) (fun _ _ => rfl) rfl ?_
  show SW sc m_X9_regraft _ _ _ 64 [some (.ref r0), some (.int l1), some (.int l2), some (.int l3), none] [] g11 P
  refine sw_aload_n dX9_regraft_64 rfl ?_
  refine sw_getf dX9_regraft_65 lf_X9_26 hc13 hv13 ?_
  refine sw_iload_n dX9_regraft_68 rfl ?_
  refine sw_iload_n dX9_regraft_69 rfl ?_
  refine sw_cV dX9_regraft_70 lv_X9_306 hm16 hr16 rfl (by decide) rfl rfl rfl (Nat.le_of_ble_eq_true rfl) (fun _ _ => rfl) rfl ?_
  show SW sc m_X9_regraft _ _ _ 73 [some (.ref r0), some (.int l1), some (.int l2), some (.int l3), none] [] g16 P
  refine sw_aload_n dX9_regraft_73 rfl ?_
  refine sw_getf dX9_regraft_74 lf_X9_68 hc18 hv18 ?_
  refine sw_iconst (v := 2) dX9_regraft_77 (by decide) ?_
  refine sw_dup2 dX9_regraft_78 (fun _ _ => rfl) (fun _ _ => rfl) ?_
  refine sw_iald dX9_regraft_79 hc21 ho21 hi21 ?_
  refine sw_iconst (v := 1) dX9_regraft_80 (by decide) ?_
  refine sw_iadd dX9_regraft_81 ?_
  refine sw_iast dX9_regraft_82 hc24 ho24 hl24 ?_
  refine sw_iconst (v := 0) dX9_regraft_83 (by decide) ?_
  exact sw_ret (v := (some (.int 0))) dX9_regraft_84 rt_i hP
theorem b_X9_prune_0 {r0 : Nat} {l1 : Int32} (kt : l1 < 1 → SW sc m_X9_prune d rc rs 11 [none, none, none, none] [] h P) (kf : ¬ (l1 < 1) → SW sc m_X9_prune d rc rs 5 [some (.ref r0), some (.int l1), none, none] [] h P) : SW sc m_X9_prune d rc rs 0 [some (.ref r0), some (.int l1), none, none] [] h P := by
  refine sw_iload_n dX9_prune_0 rfl ?_
  refine sw_iconst (v := 1) dX9_prune_1 (by decide) ?_
  exact sw_icmp_lt dX9_prune_2 (by decide) (fun q => (sw_fg [true, true, false, false] rfl (kt q))) (fun q => (kf q))
theorem b_X9_prune_5 {r0 : Nat} {l1 : Int32} (kt : l1 ≤ 9 → SW sc m_X9_prune d rc rs 22 [some (.ref r0), some (.int l1), none, none] [] h P) (kf : ¬ (l1 ≤ 9) → SW sc m_X9_prune d rc rs 11 [none, none, none, none] [] h P) : SW sc m_X9_prune d rc rs 5 [some (.ref r0), some (.int l1), none, none] [] h P := by
  refine sw_iload_n dX9_prune_5 rfl ?_
  refine sw_bipush (v := 9) dX9_prune_6 (by decide) ?_
  exact sw_icmp_le dX9_prune_8 (by decide) (fun q => (kt q)) (fun q => (sw_fg [true, true, false, false] rfl (kf q)))
theorem b_X9_prune_11  (hP : P (.inr 2) h) : SW sc m_X9_prune d (rc + 1) (rs + 6) 11 [none, none, none, none] [] h P := by
  exact sw_throwW dX9_prune_11 dX9_prune_14 dX9_prune_15 dX9_prune_18 dX9_prune_21 lt_X9_2 sr_X9_316 (Nat.le_of_ble_eq_true rfl) (fun _ _ => rfl) (st_out rfl hP)
theorem b_X9_prune_22 {r0 : Nat} {l1 : Int32} {fs2 : List Value} {a2 : Nat} {fs4 : List Value} {a4 : Nat} {v5 : Nat} {g5 : ab_H} {fs5 : List Value} {fs8 : List Value} {a8 : Nat} {v9 : Int32} {g9 : ab_H} {fs9 : List Value} (hc2 : (h)[r0]? = some (9, fs2)) (hv2 : fs2[8]? = some (.ref a2)) (hc4 : (h)[r0]? = some (9, fs4)) (hv4 : fs4[2]? = some (.ref a4)) (hr5 : (h)[a2]? = some (5, fs5)) (hm5 : MSE m_X5_record d [.ref a2, .ref a4] h (some (.ref v5)) g5) (hc8 : (g5)[r0]? = some (9, fs8)) (hv8 : fs8[2]? = some (.ref a8)) (hr9 : (g5)[a8]? = some (3, fs9)) (hm9 : MSE m_X3_edges d [.ref a8] g5 (some (.int v9)) g9) (k : SW sc m_X9_prune (d + 1) rc rs 44 [some (.ref r0), some (.int l1), some (.int v9), some (.int 0)] [] g9 P) : SW sc m_X9_prune (d + 1) rc rs 22 [some (.ref r0), some (.int l1), none, none] [] h P := by
  refine sw_aload_n dX9_prune_22 rfl ?_
  refine sw_getf dX9_prune_23 lf_X9_64 hc2 hv2 ?_
  refine sw_aload_n dX9_prune_26 rfl ?_
  refine sw_getf dX9_prune_27 lf_X9_26 hc4 hv4 ?_
  refine sw_cV dX9_prune_30 lv_X9_302 hm5 hr5 rfl (by decide) rfl rfl rfl (Nat.le_of_ble_eq_true rfl) (fun _ _ => rfl) rfl ?_
  show SW sc m_X9_prune _ _ _ 33 [some (.ref r0), some (.int l1), none, none] [.ref v5] g5 P
  refine sw_pop dX9_prune_33 (fun _ _ => rfl) ?_
  refine sw_aload_n dX9_prune_34 rfl ?_
  refine sw_getf dX9_prune_35 lf_X9_26 hc8 hv8 ?_
  refine sw_cV dX9_prune_38 lv_X9_107 hm9 hr9 rfl (by decide) rfl rfl rfl (Nat.le_of_ble_eq_true rfl) (fun _ _ => rfl) rfl ?_
  show SW sc m_X9_prune _ _ _ 41 [some (.ref r0), some (.int l1), none, none] [.int v9] g9 P
  refine sw_istore_n dX9_prune_41 (by decide) rfl ?_
  show SW sc m_X9_prune _ _ _ 42 [some (.ref r0), some (.int l1), some (.int v9), none] [] g9 P
  refine sw_iconst (v := 0) dX9_prune_42 (by decide) ?_
  refine sw_istore_n dX9_prune_43 (by decide) rfl ?_
  show SW sc m_X9_prune _ _ _ 44 [some (.ref r0), some (.int l1), some (.int v9), some (.int 0)] [] g9 P
  exact (k)
theorem b_X9_prune_44 {r0 : Nat} {l1 : Int32} {l2 : Int32} {l3 : Int32} (kt : l1 ≤ l3 → SW sc m_X9_prune d rc rs 62 [some (.ref r0), some (.int l1), some (.int l2), none] [] h P) (kf : ¬ (l1 ≤ l3) → SW sc m_X9_prune d rc rs 49 [some (.ref r0), some (.int l1), some (.int l2), some (.int l3)] [] h P) : SW sc m_X9_prune d rc rs 44 [some (.ref r0), some (.int l1), some (.int l2), some (.int l3)] [] h P := by
  refine sw_iload_n dX9_prune_44 rfl ?_
  refine sw_iload_n dX9_prune_45 rfl ?_
  exact sw_icmp_ge dX9_prune_46 (by decide) (fun q => (sw_fg [false, false, false, true] rfl (kt q))) (fun q => (kf q))
theorem b_X9_prune_49 {r0 : Nat} {l1 : Int32} {l2 : Int32} {l3 : Int32} {fs2 : List Value} {a2 : Nat} {g3 : ab_H} {fs3 : List Value} (hc2 : (h)[r0]? = some (9, fs2)) (hv2 : fs2[2]? = some (.ref a2)) (hr3 : (h)[a2]? = some (3, fs3)) (hm3 : MSE m_X3_dropLeaves d [.ref a2] h none g3) (k : SW sc m_X9_prune (d + 1) rc rs 44 [some (.ref r0), some (.int l1), some (.int l2), some (.int (l3 + 1))] [] g3 P) : SW sc m_X9_prune (d + 1) rc rs 49 [some (.ref r0), some (.int l1), some (.int l2), some (.int l3)] [] h P := by
  refine sw_aload_n dX9_prune_49 rfl ?_
  refine sw_getf dX9_prune_50 lf_X9_26 hc2 hv2 ?_
  refine sw_cV dX9_prune_53 lv_X9_318 hm3 hr3 rfl (by decide) rfl rfl rfl (Nat.le_of_ble_eq_true rfl) (fun _ _ => rfl) rfl ?_
  show SW sc m_X9_prune _ _ _ 56 [some (.ref r0), some (.int l1), some (.int l2), some (.int l3)] [] g3 P
  refine sw_iinc (v := l3 + 1) dX9_prune_56 rfl rfl (by decide) rfl ?_
  show SW sc m_X9_prune _ _ _ 59 [some (.ref r0), some (.int l1), some (.int l2), some (.int (l3 + 1))] [] g3 P
  exact sw_goto dX9_prune_59 (by decide) (k)
theorem b_X9_prune_62 {r0 : Nat} {l1 : Int32} {l2 : Int32} {fs2 : List Value} {a2 : Nat} {vs5 : List Value} {x5 : Int32} {vs8 : List Value} {fs11 : List Value} {a11 : Nat} {v12 : Int32} {g12 : ab_H} {fs12 : List Value} (hc2 : (h)[r0]? = some (9, fs2)) (hv2 : fs2[9]? = some (.ref a2)) (hc5 : (h)[a2]? = some (100, vs5)) (ho5 : ¬ 3 < 0) (hi5 : vs5[(3 : Int32).toNatClampNeg]? = some (.int x5)) (hc8 : (h)[a2]? = some (100, vs8)) (ho8 : ¬ 3 < 0) (hl8 : (3 : Int32).toNatClampNeg < vs8.length) (hc11 : ((h).set a2 (100, vs8.set (3 : Int32).toNatClampNeg (.int (x5 + l1))))[r0]? = some (9, fs11)) (hv11 : fs11[2]? = some (.ref a11)) (hr12 : ((h).set a2 (100, vs8.set (3 : Int32).toNatClampNeg (.int (x5 + l1))))[a11]? = some (3, fs12)) (hm12 : MSE m_X3_edges d [.ref a11] ((h).set a2 (100, vs8.set (3 : Int32).toNatClampNeg (.int (x5 + l1)))) (some (.int v12)) g12) (hP : P (.inl (some (.int (l2 - v12)))) g12) : SW sc m_X9_prune (d + 1) rc rs 62 [some (.ref r0), some (.int l1), some (.int l2), none] [] h P := by
  refine sw_aload_n dX9_prune_62 rfl ?_
  refine sw_getf dX9_prune_63 lf_X9_68 hc2 hv2 ?_
  refine sw_iconst (v := 3) dX9_prune_66 (by decide) ?_
  refine sw_dup2 dX9_prune_67 (fun _ _ => rfl) (fun _ _ => rfl) ?_
  refine sw_iald dX9_prune_68 hc5 ho5 hi5 ?_
  refine sw_iload_n dX9_prune_69 rfl ?_
  refine sw_iadd dX9_prune_70 ?_
  refine sw_iast dX9_prune_71 hc8 ho8 hl8 ?_
  refine sw_iload_n dX9_prune_72 rfl ?_
  refine sw_aload_n dX9_prune_73 rfl ?_
  refine sw_getf dX9_prune_74 lf_X9_26 hc11 hv11 ?_
  refine sw_cV dX9_prune_77 lv_X9_107 hm12 hr12 rfl (by decide) rfl rfl rfl (Nat.le_of_ble_eq_true rfl) (fun _ _ => rfl) rfl ?_
  show SW sc m_X9_prune _ _ _ 80 [some (.ref r0), some (.int l1), some (.int l2), none] [.int v12, .int l2] g12 P
  refine sw_isub dX9_prune_80 ?_
  exact sw_ret (v := (some (.int (l2 - v12)))) dX9_prune_81 rt_i hP
theorem b_X9_swap_0 {r0 : Nat} {l1 : Int32} {l2 : Int32} {g3 : ab_H} {fs3 : List Value} {g6 : ab_H} {fs6 : List Value} {fs8 : List Value} {a8 : Nat} {fs10 : List Value} {a10 : Nat} {v11 : Nat} {g11 : ab_H} {fs11 : List Value} {fs14 : List Value} {a14 : Nat} {g17 : ab_H} {fs17 : List Value} {fs19 : List Value} {a19 : Nat} {v21 : Int32} {g21 : ab_H} {fs21 : List Value} (hr3 : (h)[r0]? = some (9, fs3)) (hm3 : MSE m_X9_needVertex d [.ref r0, .int l1] h none g3) (hr6 : (g3)[r0]? = some (9, fs6)) (hm6 : MSE m_X9_needVertex d [.ref r0, .int l2] g3 none g6) (hc8 : (g6)[r0]? = some (9, fs8)) (hv8 : fs8[8]? = some (.ref a8)) (hc10 : (g6)[r0]? = some (9, fs10)) (hv10 : fs10[2]? = some (.ref a10)) (hr11 : (g6)[a8]? = some (5, fs11)) (hm11 : MSE m_X5_record d [.ref a8, .ref a10] g6 (some (.ref v11)) g11) (hc14 : (g11)[r0]? = some (9, fs14)) (hv14 : fs14[2]? = some (.ref a14)) (hr17 : (g11)[a14]? = some (3, fs17)) (hm17 : MSE m_X3_exchange d [.ref a14, .int l1, .int l2] g11 none g17) (hc19 : (g17)[r0]? = some (9, fs19)) (hv19 : fs19[2]? = some (.ref a19)) (hr21 : (g17)[a19]? = some (3, fs21)) (hm21 : MSE m_X3_edgesNotIn d [.ref a19, .ref v11] g17 (some (.int v21)) g21) (hP : P (.inl (some (.int v21))) g21) : SW sc m_X9_swap (d + 1) rc rs 0 [some (.ref r0), some (.int l1), some (.int l2), none] [] h P := by
  refine sw_aload_n dX9_swap_0 rfl ?_
  refine sw_iload_n dX9_swap_1 rfl ?_
  refine sw_cV dX9_swap_2 lv_X9_146 hm3 hr3 rfl (by decide) rfl rfl rfl (Nat.le_of_ble_eq_true rfl) (fun _ _ => rfl) rfl ?_
  show SW sc m_X9_swap _ _ _ 5 [some (.ref r0), some (.int l1), some (.int l2), none] [] g3 P
  refine sw_aload_n dX9_swap_5 rfl ?_
  refine sw_iload_n dX9_swap_6 rfl ?_
  refine sw_cV dX9_swap_7 lv_X9_146 hm6 hr6 rfl (by decide) rfl rfl rfl (Nat.le_of_ble_eq_true rfl) (fun _ _ => rfl) rfl ?_
  show SW sc m_X9_swap _ _ _ 10 [some (.ref r0), some (.int l1), some (.int l2), none] [] g6 P
  refine sw_aload_n dX9_swap_10 rfl ?_
  refine sw_getf dX9_swap_11 lf_X9_64 hc8 hv8 ?_
  refine sw_aload_n dX9_swap_14 rfl ?_
  refine sw_getf dX9_swap_15 lf_X9_26 hc10 hv10 ?_
  refine sw_cV dX9_swap_18 lv_X9_302 hm11 hr11 rfl (by decide) rfl rfl rfl (Nat.le_of_ble_eq_true rfl) (fun _ _ => rfl) rfl ?_
  show SW sc m_X9_swap _ _ _ 21 [some (.ref r0), some (.int l1), some (.int l2), none] [.ref v11] g11 P
  refine sw_astore_n dX9_swap_21 (by decide) rfl ?_
  show SW sc m_X9_swap _ _ _ 22 [some (.ref r0), some (.int l1), some (.int l2), some (.ref v11)] [] g11 P
  refine sw_aload_n dX9_swap_22 rfl ?_
  refine sw_getf dX9_swap_23 lf_X9_26 hc14 hv14 ?_
  refine sw_iload_n dX9_swap_26 rfl ?_
  refine sw_iload_n dX9_swap_27 rfl ?_
  refine sw_cV dX9_swap_28 lv_X9_321 hm17 hr17 rfl (by decide) rfl rfl rfl (Nat.le_of_ble_eq_true rfl) (fun _ _ => rfl) rfl ?_
  show SW sc m_X9_swap _ _ _ 31 [some (.ref r0), some (.int l1), some (.int l2), some (.ref v11)] [] g17 P
  refine sw_aload_n dX9_swap_31 rfl ?_
  refine sw_getf dX9_swap_32 lf_X9_26 hc19 hv19 ?_
  refine sw_aload_n dX9_swap_35 rfl ?_
  refine sw_cV dX9_swap_36 lv_X9_324 hm21 hr21 rfl (by decide) rfl rfl rfl (Nat.le_of_ble_eq_true rfl) (fun _ _ => rfl) rfl ?_
  show SW sc m_X9_swap _ _ _ 39 [some (.ref r0), some (.int l1), some (.int l2), some (.ref v11)] [.int v21] g21 P
  exact sw_ret (v := (some (.int v21))) dX9_swap_39 rt_i hP
theorem bx_X9_swap_0_2 {r0 : Nat} {l1 : Int32} {l2 : Int32} {E : Nat} {g3 : ab_H} {fs3 : List Value} (hr3 : (h)[r0]? = some (9, fs3)) (hm3 : MSX m_X9_needVertex d [.ref r0, .int l1] h E g3) (hx : ST sc m_X9_swap (d + 1) rc rs 2 [some (.ref r0), some (.int l1), some (.int l2), none] g3 E P) : SW sc m_X9_swap (d + 1) (rc + 1) (rs + 6) 0 [some (.ref r0), some (.int l1), some (.int l2), none] [] h P := by
  refine sw_aload_n dX9_swap_0 rfl ?_
  refine sw_iload_n dX9_swap_1 rfl ?_
  exact sw_xV dX9_swap_2 lv_X9_146 hm3 hr3 rfl (by decide) rfl rfl rfl (Nat.le_of_ble_eq_true rfl) (fun _ _ => rfl) rfl hx
theorem bx_X9_swap_0_7 {r0 : Nat} {l1 : Int32} {l2 : Int32} {g3 : ab_H} {fs3 : List Value} {E : Nat} {g6 : ab_H} {fs6 : List Value} (hr3 : (h)[r0]? = some (9, fs3)) (hm3 : MSE m_X9_needVertex d [.ref r0, .int l1] h none g3) (hr6 : (g3)[r0]? = some (9, fs6)) (hm6 : MSX m_X9_needVertex d [.ref r0, .int l2] g3 E g6) (hx : ST sc m_X9_swap (d + 1) rc rs 7 [some (.ref r0), some (.int l1), some (.int l2), none] g6 E P) : SW sc m_X9_swap (d + 1) (rc + 1) (rs + 6) 0 [some (.ref r0), some (.int l1), some (.int l2), none] [] h P := by
  refine sw_aload_n dX9_swap_0 rfl ?_
  refine sw_iload_n dX9_swap_1 rfl ?_
  refine sw_cV dX9_swap_2 lv_X9_146 hm3 hr3 rfl (by decide) rfl rfl rfl (Nat.le_of_ble_eq_true rfl) (fun _ _ => rfl) rfl ?_
  show SW sc m_X9_swap _ _ _ 5 [some (.ref r0), some (.int l1), some (.int l2), none] [] g3 P
  refine sw_aload_n dX9_swap_5 rfl ?_
  refine sw_iload_n dX9_swap_6 rfl ?_
  exact sw_xV dX9_swap_7 lv_X9_146 hm6 hr6 rfl (by decide) rfl rfl rfl (Nat.le_of_ble_eq_true rfl) (fun _ _ => rfl) rfl hx
theorem b_X9_setWeight_0 {r0 : Nat} {l1 : Int32} {l2 : Int32} {g3 : ab_H} {fs3 : List Value} (hr3 : (h)[r0]? = some (9, fs3)) (hm3 : MSE m_X9_needVertex d [.ref r0, .int l1] h none g3) (kt : l2 < 0 → SW sc m_X9_setWeight (d + 1) rc rs 15 [none, none, none, none] [] g3 P) (kf : ¬ (l2 < 0) → SW sc m_X9_setWeight (d + 1) rc rs 9 [some (.ref r0), some (.int l1), some (.int l2), none] [] g3 P) : SW sc m_X9_setWeight (d + 1) rc rs 0 [some (.ref r0), some (.int l1), some (.int l2), none] [] h P := by
  refine sw_aload_n dX9_setWeight_0 rfl ?_
  refine sw_iload_n dX9_setWeight_1 rfl ?_
  refine sw_cV dX9_setWeight_2 lv_X9_146 hm3 hr3 rfl (by decide) rfl rfl rfl (Nat.le_of_ble_eq_true rfl) (fun _ _ => rfl) rfl ?_
  show SW sc m_X9_setWeight _ _ _ 5 [some (.ref r0), some (.int l1), some (.int l2), none] [] g3 P
  refine sw_iload_n dX9_setWeight_5 rfl ?_
  exact sw_if_lt dX9_setWeight_6 (by decide) (fun q => (sw_fg [true, true, true, false] rfl (kt q))) (fun q => (kf q))
theorem bx_X9_setWeight_0_2 {r0 : Nat} {l1 : Int32} {l2 : Int32} {E : Nat} {g3 : ab_H} {fs3 : List Value} (hr3 : (h)[r0]? = some (9, fs3)) (hm3 : MSX m_X9_needVertex d [.ref r0, .int l1] h E g3) (hx : ST sc m_X9_setWeight (d + 1) rc rs 2 [some (.ref r0), some (.int l1), some (.int l2), none] g3 E P) : SW sc m_X9_setWeight (d + 1) (rc + 1) (rs + 6) 0 [some (.ref r0), some (.int l1), some (.int l2), none] [] h P := by
  refine sw_aload_n dX9_setWeight_0 rfl ?_
  refine sw_iload_n dX9_setWeight_1 rfl ?_
  exact sw_xV dX9_setWeight_2 lv_X9_146 hm3 hr3 rfl (by decide) rfl rfl rfl (Nat.le_of_ble_eq_true rfl) (fun _ _ => rfl) rfl hx
theorem b_X9_setWeight_9 {r0 : Nat} {l1 : Int32} {l2 : Int32} (kt : l2 ≤ 99 → SW sc m_X9_setWeight d rc rs 26 [some (.ref r0), some (.int l1), some (.int l2), none] [] h P) (kf : ¬ (l2 ≤ 99) → SW sc m_X9_setWeight d rc rs 15 [none, none, none, none] [] h P) : SW sc m_X9_setWeight d rc rs 9 [some (.ref r0), some (.int l1), some (.int l2), none] [] h P := by
  refine sw_iload_n dX9_setWeight_9 rfl ?_
  refine sw_bipush (v := 99) dX9_setWeight_10 (by decide) ?_
  exact sw_icmp_le dX9_setWeight_12 (by decide) (fun q => (kt q)) (fun q => (sw_fg [true, true, true, false] rfl (kf q)))
theorem b_X9_setWeight_15  (hP : P (.inr 2) h) : SW sc m_X9_setWeight d (rc + 1) (rs + 6) 15 [none, none, none, none] [] h P := by
  exact sw_throwW dX9_setWeight_15 dX9_setWeight_18 dX9_setWeight_19 dX9_setWeight_22 dX9_setWeight_25 lt_X9_2 sr_X9_328 (Nat.le_of_ble_eq_true rfl) (fun _ _ => rfl) (st_out rfl hP)
theorem b_X9_setWeight_26 {r0 : Nat} {l1 : Int32} {l2 : Int32} {fs2 : List Value} {a2 : Nat} {fs4 : List Value} {a4 : Nat} {v5 : Nat} {g5 : ab_H} {fs5 : List Value} {fs8 : List Value} {a8 : Nat} {v10 : Int32} {g10 : ab_H} {fs10 : List Value} {fs13 : List Value} {a13 : Nat} {g16 : ab_H} {fs16 : List Value} (hc2 : (h)[r0]? = some (9, fs2)) (hv2 : fs2[8]? = some (.ref a2)) (hc4 : (h)[r0]? = some (9, fs4)) (hv4 : fs4[2]? = some (.ref a4)) (hr5 : (h)[a2]? = some (5, fs5)) (hm5 : MSE m_X5_record d [.ref a2, .ref a4] h (some (.ref v5)) g5) (hc8 : (g5)[r0]? = some (9, fs8)) (hv8 : fs8[2]? = some (.ref a8)) (hr10 : (g5)[a8]? = some (3, fs10)) (hm10 : MSE m_X3_weightOf d [.ref a8, .int l1] g5 (some (.int v10)) g10) (hc13 : (g10)[r0]? = some (9, fs13)) (hv13 : fs13[2]? = some (.ref a13)) (hr16 : (g10)[a13]? = some (3, fs16)) (hm16 : MSE m_X3_weigh d [.ref a13, .int l1, .int l2] g10 none g16) (hP : P (.inl (some (.int v10))) g16) : SW sc m_X9_setWeight (d + 1) rc rs 26 [some (.ref r0), some (.int l1), some (.int l2), none] [] h P := by
  refine sw_aload_n dX9_setWeight_26 rfl ?_
  refine sw_getf dX9_setWeight_27 lf_X9_64 hc2 hv2 ?_
  refine sw_aload_n dX9_setWeight_30 rfl ?_
  refine sw_getf dX9_setWeight_31 lf_X9_26 hc4 hv4 ?_
  refine sw_cV dX9_setWeight_34 lv_X9_302 hm5 hr5 rfl (by decide) rfl rfl rfl (Nat.le_of_ble_eq_true rfl) (fun _ _ => rfl) rfl ?_
  show SW sc m_X9_setWeight _ _ _ 37 [some (.ref r0), some (.int l1), some (.int l2), none] [.ref v5] g5 P
  refine sw_pop dX9_setWeight_37 (fun _ _ => rfl) ?_
  refine sw_aload_n dX9_setWeight_38 rfl ?_
  refine sw_getf dX9_setWeight_39 lf_X9_26 hc8 hv8 ?_
  refine sw_iload_n dX9_setWeight_42 rfl ?_
  refine sw_cV dX9_setWeight_43 lv_X9_152 hm10 hr10 rfl (by decide) rfl rfl rfl (Nat.le_of_ble_eq_true rfl) (fun _ _ => rfl) rfl ?_
  show SW sc m_X9_setWeight _ _ _ 46 [some (.ref r0), some (.int l1), some (.int l2), none] [.int v10] g10 P
  refine sw_istore_n dX9_setWeight_46 (by decide) rfl ?_
  show SW sc m_X9_setWeight _ _ _ 47 [some (.ref r0), some (.int l1), some (.int l2), some (.int v10)] [] g10 P
  refine sw_aload_n dX9_setWeight_47 rfl ?_
  refine sw_getf dX9_setWeight_48 lf_X9_26 hc13 hv13 ?_
  refine sw_iload_n dX9_setWeight_51 rfl ?_
  refine sw_iload_n dX9_setWeight_52 rfl ?_
  refine sw_cV dX9_setWeight_53 lv_X9_330 hm16 hr16 rfl (by decide) rfl rfl rfl (Nat.le_of_ble_eq_true rfl) (fun _ _ => rfl) rfl ?_
  show SW sc m_X9_setWeight _ _ _ 56 [some (.ref r0), some (.int l1), some (.int l2), some (.int v10)] [] g16 P
  refine sw_iload_n dX9_setWeight_56 rfl ?_
  exact sw_ret (v := (some (.int v10))) dX9_setWeight_57 rt_i hP
theorem b_X9_fromRank_0 {r0 : Nat} {l1 : Int32} (kt : l1 < 0 → SW sc m_X9_fromRank d rc rs 18 [none, none] [] h P) (kf : ¬ (l1 < 0) → SW sc m_X9_fromRank d rc rs 4 [some (.ref r0), some (.int l1)] [] h P) : SW sc m_X9_fromRank d rc rs 0 [some (.ref r0), some (.int l1)] [] h P := by
  refine sw_iload_n dX9_fromRank_0 rfl ?_
  exact sw_if_lt dX9_fromRank_1 (by decide) (fun q => (sw_fg [true, true] rfl (kt q))) (fun q => (kf q))
theorem b_X9_fromRank_4 {r0 : Nat} {l1 : Int32} {fs3 : List Value} {a3 : Nat} {fs4 : List Value} {x4 : Int32} {v5 : Int32} {g5 : ab_H} (hc3 : (h)[r0]? = some (9, fs3)) (hv3 : fs3[2]? = some (.ref a3)) (hc4 : (h)[a3]? = some (3, fs4)) (hv4 : fs4[2]? = some (.int x4)) (hm5 : MSE m_X9_treesWith d [.int x4] h (some (.int v5)) g5) (kt : l1 < v5 → SW sc m_X9_fromRank (d + 1) rc rs 29 [some (.ref r0), some (.int l1)] [] g5 P) (kf : ¬ (l1 < v5) → SW sc m_X9_fromRank (d + 1) rc rs 18 [none, none] [] g5 P) : SW sc m_X9_fromRank (d + 1) rc rs 4 [some (.ref r0), some (.int l1)] [] h P := by
  refine sw_iload_n dX9_fromRank_4 rfl ?_
  refine sw_aload_n dX9_fromRank_5 rfl ?_
  refine sw_getf dX9_fromRank_6 lf_X9_26 hc3 hv3 ?_
  refine sw_getf dX9_fromRank_9 lf_X9_110 hc4 hv4 ?_
  refine sw_cS dX9_fromRank_12 ls_X9_333 hm5 rfl rfl (Nat.le_of_ble_eq_true rfl) (fun _ _ => rfl) rfl ?_
  show SW sc m_X9_fromRank _ _ _ 15 [some (.ref r0), some (.int l1)] [.int v5, .int l1] g5 P
  exact sw_icmp_lt dX9_fromRank_15 (by decide) (fun q => (kt q)) (fun q => (sw_fg [true, true] rfl (kf q)))
theorem b_X9_fromRank_18  (hP : P (.inr 2) h) : SW sc m_X9_fromRank d (rc + 1) (rs + 6) 18 [none, none] [] h P := by
  exact sw_throwW dX9_fromRank_18 dX9_fromRank_21 dX9_fromRank_22 dX9_fromRank_25 dX9_fromRank_28 lt_X9_2 sr_X9_336 (Nat.le_of_ble_eq_true rfl) (fun _ _ => rfl) (st_out rfl hP)
theorem b_X9_fromRank_29 {r0 : Nat} {l1 : Int32} {v3 : Int32} {g3 : ab_H} {fs3 : List Value} (hr3 : (h)[r0]? = some (9, fs3)) (hm3 : MSE m_X9_becomeTree d [.ref r0, .int l1] h (some (.int v3)) g3) (hP : P (.inl (some (.int v3))) g3) : SW sc m_X9_fromRank (d + 1) rc rs 29 [some (.ref r0), some (.int l1)] [] h P := by
  refine sw_aload_n dX9_fromRank_29 rfl ?_
  refine sw_iload_n dX9_fromRank_30 rfl ?_
  refine sw_cV dX9_fromRank_31 lv_X9_338 hm3 hr3 rfl (by decide) rfl rfl rfl (Nat.le_of_ble_eq_true rfl) (fun _ _ => rfl) rfl ?_
  show SW sc m_X9_fromRank _ _ _ 34 [some (.ref r0), some (.int l1)] [.int v3] g3 P
  exact sw_ret (v := (some (.int v3))) dX9_fromRank_34 rt_i hP
theorem b_X9_nextTree_0 {r0 : Nat} {fs2 : List Value} {a2 : Nat} {v3 : Int32} {g3 : ab_H} {fs3 : List Value} (hc2 : (h)[r0]? = some (9, fs2)) (hv2 : fs2[2]? = some (.ref a2)) (hr3 : (h)[a2]? = some (3, fs3)) (hm3 : MSE m_X3_components d [.ref a2] h (some (.int v3)) g3) (kt : ¬ v3 = 1 → SW sc m_X9_nextTree (d + 1) rc rs 27 [some (.ref r0), none] [] g3 P) (kf : v3 = 1 → SW sc m_X9_nextTree (d + 1) rc rs 11 [some (.ref r0), none] [] g3 P) : SW sc m_X9_nextTree (d + 1) rc rs 0 [some (.ref r0), none] [] h P := by
  refine sw_aload_n dX9_nextTree_0 rfl ?_
  refine sw_getf dX9_nextTree_1 lf_X9_26 hc2 hv2 ?_
  refine sw_cV dX9_nextTree_4 lv_X9_113 hm3 hr3 rfl (by decide) rfl rfl rfl (Nat.le_of_ble_eq_true rfl) (fun _ _ => rfl) rfl ?_
  show SW sc m_X9_nextTree _ _ _ 7 [some (.ref r0), none] [.int v3] g3 P
  refine sw_iconst (v := 1) dX9_nextTree_7 (by decide) ?_
  exact sw_icmp_ne dX9_nextTree_8 (by decide) (fun q => (kt q)) (fun q => (kf q))
theorem b_X9_nextTree_11 {r0 : Nat} {fs2 : List Value} {a2 : Nat} {fs4 : List Value} {a4 : Nat} {v5 : Int32} {g5 : ab_H} {fs5 : List Value} (hc2 : (h)[r0]? = some (9, fs2)) (hv2 : fs2[4]? = some (.ref a2)) (hc4 : (h)[r0]? = some (9, fs4)) (hv4 : fs4[2]? = some (.ref a4)) (hr5 : (h)[a2]? = some (1, fs5)) (hm5 : MSE m_X1_rankOf d [.ref a2, .ref a4] h (some (.int v5)) g5) (k : SW sc m_X9_nextTree (d + 1) rc rs 37 [some (.ref r0), none] [.int (v5 + 1)] g5 P) : SW sc m_X9_nextTree (d + 1) rc rs 11 [some (.ref r0), none] [] h P := by
  refine sw_aload_n dX9_nextTree_11 rfl ?_
  refine sw_getf dX9_nextTree_12 lf_X9_36 hc2 hv2 ?_
  refine sw_aload_n dX9_nextTree_15 rfl ?_
  refine sw_getf dX9_nextTree_16 lf_X9_26 hc4 hv4 ?_
  refine sw_cV dX9_nextTree_19 lv_X9_238 hm5 hr5 rfl (by decide) rfl rfl rfl (Nat.le_of_ble_eq_true rfl) (fun _ _ => rfl) rfl ?_
  show SW sc m_X9_nextTree _ _ _ 22 [some (.ref r0), none] [.int v5] g5 P
  refine sw_iconst (v := 1) dX9_nextTree_22 (by decide) ?_
  refine sw_iadd dX9_nextTree_23 ?_
  exact sw_goto dX9_nextTree_24 (by decide) (k)
theorem b_X9_nextTree_27 {r0 : Nat} {fs2 : List Value} {a2 : Nat} {fs3 : List Value} {x3 : Int32} {v4 : Int32} {g4 : ab_H} (hc2 : (h)[r0]? = some (9, fs2)) (hv2 : fs2[2]? = some (.ref a2)) (hc3 : (h)[a2]? = some (3, fs3)) (hv3 : fs3[2]? = some (.int x3)) (hm4 : MSE m_X9_treesWith d [.int x3] h (some (.int v4)) g4) (k : SW sc m_X9_nextTree (d + 1) rc rs 37 [some (.ref r0), none] [.int v4] g4 P) : SW sc m_X9_nextTree (d + 1) rc rs 27 [some (.ref r0), none] [] h P := by
  refine sw_aload_n dX9_nextTree_27 rfl ?_
  refine sw_getf dX9_nextTree_28 lf_X9_26 hc2 hv2 ?_
  refine sw_getf dX9_nextTree_31 lf_X9_110 hc3 hv3 ?_
  refine sw_cS dX9_nextTree_34 ls_X9_333 hm4 rfl rfl (Nat.le_of_ble_eq_true rfl) (fun _ _ => rfl) rfl ?_
  show SW sc m_X9_nextTree _ _ _ 37 [some (.ref r0), none] [.int v4] g4 P
  exact (k)
theorem b_X9_nextTree_37 {r0 : Nat} {s0 : Int32} {fs4 : List Value} {a4 : Nat} {fs5 : List Value} {x5 : Int32} {v6 : Int32} {g6 : ab_H} (hc4 : (h)[r0]? = some (9, fs4)) (hv4 : fs4[2]? = some (.ref a4)) (hc5 : (h)[a4]? = some (3, fs5)) (hv5 : fs5[2]? = some (.int x5)) (hm6 : MSE m_X9_treesWith d [.int x5] h (some (.int v6)) g6) (kt : s0 < v6 → SW sc m_X9_nextTree (d + 1) rc rs 65 [some (.ref r0), some (.int s0)] [] g6 P) (kf : ¬ (s0 < v6) → SW sc m_X9_nextTree (d + 1) rc rs 52 [some (.ref r0), none] [] g6 P) : SW sc m_X9_nextTree (d + 1) rc rs 37 [some (.ref r0), none] [.int s0] h P := by
  refine sw_istore_n dX9_nextTree_37 (by decide) rfl ?_
  show SW sc m_X9_nextTree _ _ _ 38 [some (.ref r0), some (.int s0)] [] h P
  refine sw_iload_n dX9_nextTree_38 rfl ?_
  refine sw_aload_n dX9_nextTree_39 rfl ?_
  refine sw_getf dX9_nextTree_40 lf_X9_26 hc4 hv4 ?_
  refine sw_getf dX9_nextTree_43 lf_X9_110 hc5 hv5 ?_
  refine sw_cS dX9_nextTree_46 ls_X9_333 hm6 rfl rfl (Nat.le_of_ble_eq_true rfl) (fun _ _ => rfl) rfl ?_
  show SW sc m_X9_nextTree _ _ _ 49 [some (.ref r0), some (.int s0)] [.int v6, .int s0] g6 P
  exact sw_icmp_lt dX9_nextTree_49 (by decide) (fun q => (kt q)) (fun q => (sw_fg [false, true] rfl (kf q)))
theorem b_X9_nextTree_52 {r0 : Nat} {fs2 : List Value} {a2 : Nat} {vs5 : List Value} {x5 : Int32} {vs8 : List Value} (hc2 : (h)[r0]? = some (9, fs2)) (hv2 : fs2[9]? = some (.ref a2)) (hc5 : (h)[a2]? = some (100, vs5)) (ho5 : ¬ 8 < 0) (hi5 : vs5[(8 : Int32).toNatClampNeg]? = some (.int x5)) (hc8 : (h)[a2]? = some (100, vs8)) (ho8 : ¬ 8 < 0) (hl8 : (8 : Int32).toNatClampNeg < vs8.length) (hP : P (.inl (some (.int (-1)))) ((h).set a2 (100, vs8.set (8 : Int32).toNatClampNeg (.int (x5 + 1))))) : SW sc m_X9_nextTree d rc rs 52 [some (.ref r0), none] [] h P := by
  refine sw_aload_n dX9_nextTree_52 rfl ?_
  refine sw_getf dX9_nextTree_53 lf_X9_68 hc2 hv2 ?_
  refine sw_bipush (v := 8) dX9_nextTree_56 (by decide) ?_
  refine sw_dup2 dX9_nextTree_58 (fun _ _ => rfl) (fun _ _ => rfl) ?_
  refine sw_iald dX9_nextTree_59 hc5 ho5 hi5 ?_
  refine sw_iconst (v := 1) dX9_nextTree_60 (by decide) ?_
  refine sw_iadd dX9_nextTree_61 ?_
  refine sw_iast dX9_nextTree_62 hc8 ho8 hl8 ?_
  refine sw_iconst (v := (-1)) dX9_nextTree_63 (by decide) ?_
  exact sw_ret (v := (some (.int (-1)))) dX9_nextTree_64 rt_i hP
theorem b_X9_nextTree_65 {r0 : Nat} {l1 : Int32} {v3 : Int32} {g3 : ab_H} {fs3 : List Value} (hr3 : (h)[r0]? = some (9, fs3)) (hm3 : MSE m_X9_becomeTree d [.ref r0, .int l1] h (some (.int v3)) g3) (hP : P (.inl (some (.int l1))) g3) : SW sc m_X9_nextTree (d + 1) rc rs 65 [some (.ref r0), some (.int l1)] [] h P := by
  refine sw_aload_n dX9_nextTree_65 rfl ?_
  refine sw_iload_n dX9_nextTree_66 rfl ?_
  refine sw_cV dX9_nextTree_67 lv_X9_338 hm3 hr3 rfl (by decide) rfl rfl rfl (Nat.le_of_ble_eq_true rfl) (fun _ _ => rfl) rfl ?_
  show SW sc m_X9_nextTree _ _ _ 70 [some (.ref r0), some (.int l1)] [.int v3] g3 P
  refine sw_pop dX9_nextTree_70 (fun _ _ => rfl) ?_
  refine sw_iload_n dX9_nextTree_71 rfl ?_
  exact sw_ret (v := (some (.int l1))) dX9_nextTree_72 rt_i hP
theorem b_X9_keep_0 {r0 : Nat} {l1 : Int32} {g2 : ab_H} {fs4 : List Value} {a4 : Nat} {v6 : Int32} {g6 : ab_H} {fs6 : List Value} {fs9 : List Value} {a9 : Nat} {fs12 : List Value} {a12 : Nat} {g13 : ab_H} {fs13 : List Value} (hm2 : MSE m_X9_needSnapshot d [.int l1] h none g2) (hc4 : (g2)[r0]? = some (9, fs4)) (hv4 : fs4[8]? = some (.ref a4)) (hr6 : (g2)[a4]? = some (5, fs6)) (hm6 : MSE m_X5_hasSnapshot d [.ref a4, .int l1] g2 (some (.int v6)) g6) (hc9 : (g6)[r0]? = some (9, fs9)) (hv9 : fs9[8]? = some (.ref a9)) (hc12 : (g6)[r0]? = some (9, fs12)) (hv12 : fs12[2]? = some (.ref a12)) (hr13 : (g6)[a9]? = some (5, fs13)) (hm13 : MSE m_X5_keepSnapshot d [.ref a9, .int l1, .ref a12] g6 none g13) (hz15 : narrow .boolean (.int v6) = .int v6) (hP : P (.inl (some (.int v6))) g13) : SW sc m_X9_keep (d + 1) rc rs 0 [some (.ref r0), some (.int l1), none] [] h P := by
  refine sw_iload_n dX9_keep_0 rfl ?_
  refine sw_cS dX9_keep_1 ls_X9_341 hm2 rfl rfl (Nat.le_of_ble_eq_true rfl) (fun _ _ => rfl) rfl ?_
  show SW sc m_X9_keep _ _ _ 4 [some (.ref r0), some (.int l1), none] [] g2 P
  refine sw_aload_n dX9_keep_4 rfl ?_
  refine sw_getf dX9_keep_5 lf_X9_64 hc4 hv4 ?_
  refine sw_iload_n dX9_keep_8 rfl ?_
  refine sw_cV dX9_keep_9 lv_X9_344 hm6 hr6 rfl (by decide) rfl rfl rfl (Nat.le_of_ble_eq_true rfl) (fun _ _ => rfl) rfl ?_
  show SW sc m_X9_keep _ _ _ 12 [some (.ref r0), some (.int l1), none] [.int v6] g6 P
  refine sw_istore_n dX9_keep_12 (by decide) rfl ?_
  show SW sc m_X9_keep _ _ _ 13 [some (.ref r0), some (.int l1), some (.int v6)] [] g6 P
  refine sw_aload_n dX9_keep_13 rfl ?_
  refine sw_getf dX9_keep_14 lf_X9_64 hc9 hv9 ?_
  refine sw_iload_n dX9_keep_17 rfl ?_
  refine sw_aload_n dX9_keep_18 rfl ?_
  refine sw_getf dX9_keep_19 lf_X9_26 hc12 hv12 ?_
  refine sw_cV dX9_keep_22 lv_X9_347 hm13 hr13 rfl (by decide) rfl rfl rfl (Nat.le_of_ble_eq_true rfl) (fun _ _ => rfl) rfl ?_
  show SW sc m_X9_keep _ _ _ 25 [some (.ref r0), some (.int l1), some (.int v6)] [] g13 P
  refine sw_iload_n dX9_keep_25 rfl ?_
  exact sw_ret (v := (some (.int v6))) dX9_keep_26 (rt_n hz15) hP
theorem bx_X9_keep_0_1 {r0 : Nat} {l1 : Int32} {E : Nat} {g2 : ab_H} (hm2 : MSX m_X9_needSnapshot d [.int l1] h E g2) (hx : ST sc m_X9_keep (d + 1) rc rs 1 [some (.ref r0), some (.int l1), none] g2 E P) : SW sc m_X9_keep (d + 1) (rc + 1) (rs + 6) 0 [some (.ref r0), some (.int l1), none] [] h P := by
  refine sw_iload_n dX9_keep_0 rfl ?_
  exact sw_xS dX9_keep_1 ls_X9_341 hm2 rfl rfl (Nat.le_of_ble_eq_true rfl) (fun _ _ => rfl) rfl hx
theorem b_X9_restore_0 {r0 : Nat} {l1 : Int32} {g2 : ab_H} {fs4 : List Value} {a4 : Nat} {v6 : Int32} {g6 : ab_H} {fs6 : List Value} (hm2 : MSE m_X9_needSnapshot d [.int l1] h none g2) (hc4 : (g2)[r0]? = some (9, fs4)) (hv4 : fs4[8]? = some (.ref a4)) (hr6 : (g2)[a4]? = some (5, fs6)) (hm6 : MSE m_X5_hasSnapshot d [.ref a4, .int l1] g2 (some (.int v6)) g6) (kt : ¬ v6 = 0 → SW sc m_X9_restore (d + 1) rc rs 28 [some (.ref r0), some (.int l1)] [] g6 P) (kf : v6 = 0 → SW sc m_X9_restore (d + 1) rc rs 15 [some (.ref r0), none] [] g6 P) : SW sc m_X9_restore (d + 1) rc rs 0 [some (.ref r0), some (.int l1)] [] h P := by
  refine sw_iload_n dX9_restore_0 rfl ?_
  refine sw_cS dX9_restore_1 ls_X9_341 hm2 rfl rfl (Nat.le_of_ble_eq_true rfl) (fun _ _ => rfl) rfl ?_
  show SW sc m_X9_restore _ _ _ 4 [some (.ref r0), some (.int l1)] [] g2 P
  refine sw_aload_n dX9_restore_4 rfl ?_
  refine sw_getf dX9_restore_5 lf_X9_64 hc4 hv4 ?_
  refine sw_iload_n dX9_restore_8 rfl ?_
  refine sw_cV dX9_restore_9 lv_X9_344 hm6 hr6 rfl (by decide) rfl rfl rfl (Nat.le_of_ble_eq_true rfl) (fun _ _ => rfl) rfl ?_
  show SW sc m_X9_restore _ _ _ 12 [some (.ref r0), some (.int l1)] [.int v6] g6 P
  exact sw_if_ne dX9_restore_12 (by decide) (fun q => (kt q)) (fun q => (sw_fg [false, true] rfl (kf q)))
theorem bx_X9_restore_0_1 {r0 : Nat} {l1 : Int32} {E : Nat} {g2 : ab_H} (hm2 : MSX m_X9_needSnapshot d [.int l1] h E g2) (hx : ST sc m_X9_restore (d + 1) rc rs 1 [some (.ref r0), some (.int l1)] g2 E P) : SW sc m_X9_restore (d + 1) (rc + 1) (rs + 6) 0 [some (.ref r0), some (.int l1)] [] h P := by
  refine sw_iload_n dX9_restore_0 rfl ?_
  exact sw_xS dX9_restore_1 ls_X9_341 hm2 rfl rfl (Nat.le_of_ble_eq_true rfl) (fun _ _ => rfl) rfl hx
theorem b_X9_restore_15 {r0 : Nat} {fs2 : List Value} {a2 : Nat} {vs5 : List Value} {x5 : Int32} {vs8 : List Value} (hc2 : (h)[r0]? = some (9, fs2)) (hv2 : fs2[9]? = some (.ref a2)) (hc5 : (h)[a2]? = some (100, vs5)) (ho5 : ¬ 9 < 0) (hi5 : vs5[(9 : Int32).toNatClampNeg]? = some (.int x5)) (hc8 : (h)[a2]? = some (100, vs8)) (ho8 : ¬ 9 < 0) (hl8 : (9 : Int32).toNatClampNeg < vs8.length) (hP : P (.inl (some (.int 0))) ((h).set a2 (100, vs8.set (9 : Int32).toNatClampNeg (.int (x5 + 1))))) : SW sc m_X9_restore d rc rs 15 [some (.ref r0), none] [] h P := by
  refine sw_aload_n dX9_restore_15 rfl ?_
  refine sw_getf dX9_restore_16 lf_X9_68 hc2 hv2 ?_
  refine sw_bipush (v := 9) dX9_restore_19 (by decide) ?_
  refine sw_dup2 dX9_restore_21 (fun _ _ => rfl) (fun _ _ => rfl) ?_
  refine sw_iald dX9_restore_22 hc5 ho5 hi5 ?_
  refine sw_iconst (v := 1) dX9_restore_23 (by decide) ?_
  refine sw_iadd dX9_restore_24 ?_
  refine sw_iast dX9_restore_25 hc8 ho8 hl8 ?_
  refine sw_iconst (v := 0) dX9_restore_26 (by decide) ?_
  exact sw_ret (v := (some (.int 0))) dX9_restore_27 (rt_n (by decide)) hP
theorem b_X9_restore_28 {r0 : Nat} {l1 : Int32} {fs2 : List Value} {a2 : Nat} {fs4 : List Value} {a4 : Nat} {v5 : Nat} {g5 : ab_H} {fs5 : List Value} {fs8 : List Value} {a8 : Nat} {fs11 : List Value} {a11 : Nat} {g12 : ab_H} {fs12 : List Value} (hc2 : (h)[r0]? = some (9, fs2)) (hv2 : fs2[8]? = some (.ref a2)) (hc4 : (h)[r0]? = some (9, fs4)) (hv4 : fs4[2]? = some (.ref a4)) (hr5 : (h)[a2]? = some (5, fs5)) (hm5 : MSE m_X5_record d [.ref a2, .ref a4] h (some (.ref v5)) g5) (hc8 : (g5)[r0]? = some (9, fs8)) (hv8 : fs8[8]? = some (.ref a8)) (hc11 : (g5)[r0]? = some (9, fs11)) (hv11 : fs11[2]? = some (.ref a11)) (hr12 : (g5)[a8]? = some (5, fs12)) (hm12 : MSE m_X5_bringSnapshot d [.ref a8, .int l1, .ref a11] g5 none g12) (hP : P (.inl (some (.int 1))) g12) : SW sc m_X9_restore (d + 1) rc rs 28 [some (.ref r0), some (.int l1)] [] h P := by
  refine sw_aload_n dX9_restore_28 rfl ?_
  refine sw_getf dX9_restore_29 lf_X9_64 hc2 hv2 ?_
  refine sw_aload_n dX9_restore_32 rfl ?_
  refine sw_getf dX9_restore_33 lf_X9_26 hc4 hv4 ?_
  refine sw_cV dX9_restore_36 lv_X9_302 hm5 hr5 rfl (by decide) rfl rfl rfl (Nat.le_of_ble_eq_true rfl) (fun _ _ => rfl) rfl ?_
  show SW sc m_X9_restore _ _ _ 39 [some (.ref r0), some (.int l1)] [.ref v5] g5 P
  refine sw_pop dX9_restore_39 (fun _ _ => rfl) ?_
  refine sw_aload_n dX9_restore_40 rfl ?_
  refine sw_getf dX9_restore_41 lf_X9_64 hc8 hv8 ?_
  refine sw_iload_n dX9_restore_44 rfl ?_
  refine sw_aload_n dX9_restore_45 rfl ?_
  refine sw_getf dX9_restore_46 lf_X9_26 hc11 hv11 ?_
  refine sw_cV dX9_restore_49 lv_X9_351 hm12 hr12 rfl (by decide) rfl rfl rfl (Nat.le_of_ble_eq_true rfl) (fun _ _ => rfl) rfl ?_
  show SW sc m_X9_restore _ _ _ 52 [some (.ref r0), some (.int l1)] [] g12 P
  refine sw_iconst (v := 1) dX9_restore_52 (by decide) ?_
  exact sw_ret (v := (some (.int 1))) dX9_restore_53 (rt_n (by decide)) hP
theorem b_X9_undo_0 {r0 : Nat} {fs2 : List Value} {a2 : Nat} {fs4 : List Value} {a4 : Nat} {v5 : Int32} {g5 : ab_H} {fs5 : List Value} (hc2 : (h)[r0]? = some (9, fs2)) (hv2 : fs2[8]? = some (.ref a2)) (hc4 : (h)[r0]? = some (9, fs4)) (hv4 : fs4[2]? = some (.ref a4)) (hr5 : (h)[a2]? = some (5, fs5)) (hm5 : MSE m_X5_takeBack d [.ref a2, .ref a4] h (some (.int v5)) g5) (kt : v5 = 0 → SW sc m_X9_undo (d + 1) rc rs 24 [none] [] g5 P) (kf : ¬ (v5 = 0) → SW sc m_X9_undo (d + 1) rc rs 14 [some (.ref r0)] [] g5 P) : SW sc m_X9_undo (d + 1) rc rs 0 [some (.ref r0)] [] h P := by
  refine sw_aload_n dX9_undo_0 rfl ?_
  refine sw_getf dX9_undo_1 lf_X9_64 hc2 hv2 ?_
  refine sw_aload_n dX9_undo_4 rfl ?_
  refine sw_getf dX9_undo_5 lf_X9_26 hc4 hv4 ?_
  refine sw_cV dX9_undo_8 lv_X9_354 hm5 hr5 rfl (by decide) rfl rfl rfl (Nat.le_of_ble_eq_true rfl) (fun _ _ => rfl) rfl ?_
  show SW sc m_X9_undo _ _ _ 11 [some (.ref r0)] [.int v5] g5 P
  exact sw_if_eq dX9_undo_11 (by decide) (fun q => (sw_fg [true] rfl (kt q))) (fun q => (kf q))
theorem b_X9_undo_14 {r0 : Nat} {fs2 : List Value} {a2 : Nat} {fs3 : List Value} {x3 : Int32} (hc2 : (h)[r0]? = some (9, fs2)) (hv2 : fs2[8]? = some (.ref a2)) (hc3 : (h)[a2]? = some (5, fs3)) (hv3 : fs3[3]? = some (.int x3)) (k : SW sc m_X9_undo d rc rs 25 [none] [.int x3] h P) : SW sc m_X9_undo d rc rs 14 [some (.ref r0)] [] h P := by
  refine sw_aload_n dX9_undo_14 rfl ?_
  refine sw_getf dX9_undo_15 lf_X9_64 hc2 hv2 ?_
  refine sw_getf dX9_undo_18 lf_X9_143 hc3 hv3 ?_
  exact sw_goto dX9_undo_21 (by decide) (sw_fg [true] rfl (k))
theorem b_X9_undo_24  (k : SW sc m_X9_undo d rc rs 25 [none] [.int (-1)] h P) : SW sc m_X9_undo d rc rs 24 [none] [] h P := by
  refine sw_iconst (v := (-1)) dX9_undo_24 (by decide) ?_
  exact (k)
theorem b_X9_undo_25 {s0 : Int32} (hP : P (.inl (some (.int s0))) h) : SW sc m_X9_undo d rc rs 25 [none] [.int s0] h P := by
  exact sw_ret (v := (some (.int s0))) dX9_undo_25 rt_i hP
theorem b_X9_account_0 {r0 : Nat} {l1 : Int32} (kt : l1 < 0 → SW sc m_X9_account d rc rs 10 [none, none] [] h P) (kf : ¬ (l1 < 0) → SW sc m_X9_account d rc rs 4 [some (.ref r0), some (.int l1)] [] h P) : SW sc m_X9_account d rc rs 0 [some (.ref r0), some (.int l1)] [] h P := by
  refine sw_iload_n dX9_account_0 rfl ?_
  exact sw_if_lt dX9_account_1 (by decide) (fun q => (sw_fg [true, true] rfl (kt q))) (fun q => (kf q))
theorem b_X9_account_4 {r0 : Nat} {l1 : Int32} (kt : l1 < 10 → SW sc m_X9_account d rc rs 21 [some (.ref r0), some (.int l1)] [] h P) (kf : ¬ (l1 < 10) → SW sc m_X9_account d rc rs 10 [none, none] [] h P) : SW sc m_X9_account d rc rs 4 [some (.ref r0), some (.int l1)] [] h P := by
  refine sw_iload_n dX9_account_4 rfl ?_
  refine sw_bipush (v := 10) dX9_account_5 (by decide) ?_
  exact sw_icmp_lt dX9_account_7 (by decide) (fun q => (kt q)) (fun q => (sw_fg [true, true] rfl (kf q)))
theorem b_X9_account_10  (hP : P (.inr 2) h) : SW sc m_X9_account d (rc + 1) (rs + 6) 10 [none, none] [] h P := by
  exact sw_throwW dX9_account_10 dX9_account_13 dX9_account_14 dX9_account_17 dX9_account_20 lt_X9_2 sr_X9_358 (Nat.le_of_ble_eq_true rfl) (fun _ _ => rfl) (st_out rfl hP)
theorem b_X9_account_21 {r0 : Nat} {l1 : Int32} {fs2 : List Value} {a2 : Nat} {vs4 : List Value} {x4 : Int32} (hc2 : (h)[r0]? = some (9, fs2)) (hv2 : fs2[9]? = some (.ref a2)) (hc4 : (h)[a2]? = some (100, vs4)) (ho4 : ¬ l1 < 0) (hi4 : vs4[l1.toNatClampNeg]? = some (.int x4)) (hP : P (.inl (some (.int x4))) h) : SW sc m_X9_account d rc rs 21 [some (.ref r0), some (.int l1)] [] h P := by
  refine sw_aload_n dX9_account_21 rfl ?_
  refine sw_getf dX9_account_22 lf_X9_68 hc2 hv2 ?_
  refine sw_iload_n dX9_account_25 rfl ?_
  refine sw_iald dX9_account_26 hc4 ho4 hi4 ?_
  exact sw_ret (v := (some (.int x4))) dX9_account_27 rt_i hP
theorem b_X9_needVertex_0 {r0 : Nat} {l1 : Int32} {fs2 : List Value} {a2 : Nat} {v4 : Int32} {g4 : ab_H} {fs4 : List Value} (hc2 : (h)[r0]? = some (9, fs2)) (hv2 : fs2[2]? = some (.ref a2)) (hr4 : (h)[a2]? = some (3, fs4)) (hm4 : MSE m_X3_isVertex d [.ref a2, .int l1] h (some (.int v4)) g4) (kt : ¬ v4 = 0 → SW sc m_X9_needVertex (d + 1) rc rs 22 [none, none] [] g4 P) (kf : v4 = 0 → SW sc m_X9_needVertex (d + 1) rc rs 11 [none, none] [] g4 P) : SW sc m_X9_needVertex (d + 1) rc rs 0 [some (.ref r0), some (.int l1)] [] h P := by
  refine sw_aload_n dX9_needVertex_0 rfl ?_
  refine sw_getf dX9_needVertex_1 lf_X9_26 hc2 hv2 ?_
  refine sw_iload_n dX9_needVertex_4 rfl ?_
  refine sw_cV dX9_needVertex_5 lv_X9_360 hm4 hr4 rfl (by decide) rfl rfl rfl (Nat.le_of_ble_eq_true rfl) (fun _ _ => rfl) rfl ?_
  show SW sc m_X9_needVertex _ _ _ 8 [some (.ref r0), some (.int l1)] [.int v4] g4 P
  exact sw_if_ne dX9_needVertex_8 (by decide) (fun q => (sw_fg [true, true] rfl (kt q))) (fun q => (sw_fg [true, true] rfl (kf q)))
theorem b_X9_needVertex_11  (hP : P (.inr 1) h) : SW sc m_X9_needVertex d (rc + 1) (rs + 6) 11 [none, none] [] h P := by
  exact sw_throwW dX9_needVertex_11 dX9_needVertex_14 dX9_needVertex_15 dX9_needVertex_18 dX9_needVertex_21 lt_X9_1 sr_X9_365 (Nat.le_of_ble_eq_true rfl) (fun _ _ => rfl) (st_out rfl hP)
theorem b_X9_needVertex_22  (hP : P (.inl none) h) : SW sc m_X9_needVertex d rc rs 22 [none, none] [] h P := by
  exact sw_ret (v := none) dX9_needVertex_22 rt_v hP
theorem b_X9_neededComponent_0 {r0 : Nat} {l1 : Int32} {fs2 : List Value} {a2 : Nat} {v4 : Int32} {g4 : ab_H} {fs4 : List Value} (hc2 : (h)[r0]? = some (9, fs2)) (hv2 : fs2[2]? = some (.ref a2)) (hr4 : (h)[a2]? = some (3, fs4)) (hm4 : MSE m_X3_componentSet d [.ref a2, .int l1] h (some (.int v4)) g4) (kt : ¬ v4 = 0 → SW sc m_X9_neededComponent (d + 1) rc rs 24 [none, none, some (.int v4)] [] g4 P) (kf : v4 = 0 → SW sc m_X9_neededComponent (d + 1) rc rs 13 [none, none, none] [] g4 P) : SW sc m_X9_neededComponent (d + 1) rc rs 0 [some (.ref r0), some (.int l1), none] [] h P := by
  refine sw_aload_n dX9_neededComponent_0 rfl ?_
  refine sw_getf dX9_neededComponent_1 lf_X9_26 hc2 hv2 ?_
  refine sw_iload_n dX9_neededComponent_4 rfl ?_
  refine sw_cV dX9_neededComponent_5 lv_X9_368 hm4 hr4 rfl (by decide) rfl rfl rfl (Nat.le_of_ble_eq_true rfl) (fun _ _ => rfl) rfl ?_
  show SW sc m_X9_neededComponent _ _ _ 8 [some (.ref r0), some (.int l1), none] [.int v4] g4 P
  refine sw_istore_n dX9_neededComponent_8 (by decide) rfl ?_
  show SW sc m_X9_neededComponent _ _ _ 9 [some (.ref r0), some (.int l1), some (.int v4)] [] g4 P
  refine sw_iload_n dX9_neededComponent_9 rfl ?_
  exact sw_if_ne dX9_neededComponent_10 (by decide) (fun q => (sw_fg [true, true, false] rfl (kt q))) (fun q => (sw_fg [true, true, true] rfl (kf q)))
theorem b_X9_neededComponent_13  (hP : P (.inr 1) h) : SW sc m_X9_neededComponent d (rc + 1) (rs + 6) 13 [none, none, none] [] h P := by
  exact sw_throwW dX9_neededComponent_13 dX9_neededComponent_16 dX9_neededComponent_17 dX9_neededComponent_20 dX9_neededComponent_23 lt_X9_1 sr_X9_371 (Nat.le_of_ble_eq_true rfl) (fun _ _ => rfl) (st_out rfl hP)
theorem b_X9_neededComponent_24 {l2 : Int32} (hP : P (.inl (some (.int l2))) h) : SW sc m_X9_neededComponent d rc rs 24 [none, none, some (.int l2)] [] h P := by
  refine sw_iload_n dX9_neededComponent_24 rfl ?_
  exact sw_ret (v := (some (.int l2))) dX9_neededComponent_25 rt_i hP
theorem b_X9_needTree_0 {r0 : Nat} {fs2 : List Value} {a2 : Nat} {v3 : Int32} {g3 : ab_H} {fs3 : List Value} (hc2 : (h)[r0]? = some (9, fs2)) (hv2 : fs2[2]? = some (.ref a2)) (hr3 : (h)[a2]? = some (3, fs3)) (hm3 : MSE m_X3_components d [.ref a2] h (some (.int v3)) g3) (kt : v3 = 1 → SW sc m_X9_needTree (d + 1) rc rs 22 [none] [] g3 P) (kf : ¬ (v3 = 1) → SW sc m_X9_needTree (d + 1) rc rs 11 [none] [] g3 P) : SW sc m_X9_needTree (d + 1) rc rs 0 [some (.ref r0)] [] h P := by
  refine sw_aload_n dX9_needTree_0 rfl ?_
  refine sw_getf dX9_needTree_1 lf_X9_26 hc2 hv2 ?_
  refine sw_cV dX9_needTree_4 lv_X9_113 hm3 hr3 rfl (by decide) rfl rfl rfl (Nat.le_of_ble_eq_true rfl) (fun _ _ => rfl) rfl ?_
  show SW sc m_X9_needTree _ _ _ 7 [some (.ref r0)] [.int v3] g3 P
  refine sw_iconst (v := 1) dX9_needTree_7 (by decide) ?_
  exact sw_icmp_eq dX9_needTree_8 (by decide) (fun q => (sw_fg [true] rfl (kt q))) (fun q => (sw_fg [true] rfl (kf q)))
theorem b_X9_needTree_11  (hP : P (.inr 3) h) : SW sc m_X9_needTree d (rc + 1) (rs + 6) 11 [none] [] h P := by
  exact sw_throwW dX9_needTree_11 dX9_needTree_14 dX9_needTree_15 dX9_needTree_18 dX9_needTree_21 lt_X9_3 sr_X9_375 (Nat.le_of_ble_eq_true rfl) (fun _ _ => rfl) (st_out rfl hP)
theorem b_X9_needTree_22  (hP : P (.inl none) h) : SW sc m_X9_needTree d rc rs 22 [none] [] h P := by
  exact sw_ret (v := none) dX9_needTree_22 rt_v hP
theorem b_X9_needSnapshot_0 {l0 : Int32} (kt : l0 < 0 → SW sc m_X9_needSnapshot d rc rs 9 [none] [] h P) (kf : ¬ (l0 < 0) → SW sc m_X9_needSnapshot d rc rs 4 [some (.int l0)] [] h P) : SW sc m_X9_needSnapshot d rc rs 0 [some (.int l0)] [] h P := by
  refine sw_iload_n dX9_needSnapshot_0 rfl ?_
  exact sw_if_lt dX9_needSnapshot_1 (by decide) (fun q => (sw_fg [true] rfl (kt q))) (fun q => (kf q))
theorem b_X9_needSnapshot_4 {l0 : Int32} (kt : l0 < 3 → SW sc m_X9_needSnapshot d rc rs 20 [none] [] h P) (kf : ¬ (l0 < 3) → SW sc m_X9_needSnapshot d rc rs 9 [none] [] h P) : SW sc m_X9_needSnapshot d rc rs 4 [some (.int l0)] [] h P := by
  refine sw_iload_n dX9_needSnapshot_4 rfl ?_
  refine sw_iconst (v := 3) dX9_needSnapshot_5 (by decide) ?_
  exact sw_icmp_lt dX9_needSnapshot_6 (by decide) (fun q => (sw_fg [true] rfl (kt q))) (fun q => (sw_fg [true] rfl (kf q)))
theorem b_X9_needSnapshot_9  (hP : P (.inr 2) h) : SW sc m_X9_needSnapshot d (rc + 1) (rs + 6) 9 [none] [] h P := by
  exact sw_throwW dX9_needSnapshot_9 dX9_needSnapshot_12 dX9_needSnapshot_13 dX9_needSnapshot_16 dX9_needSnapshot_19 lt_X9_2 sr_X9_378 (Nat.le_of_ble_eq_true rfl) (fun _ _ => rfl) (st_out rfl hP)
theorem b_X9_needSnapshot_20  (hP : P (.inl none) h) : SW sc m_X9_needSnapshot d rc rs 20 [none] [] h P := by
  exact sw_ret (v := none) dX9_needSnapshot_20 rt_v hP
theorem b_X9_reasonAgainstLink_0 {r0 : Nat} {l1 : Int32} {l2 : Int32} (kt : ¬ l1 = l2 → SW sc m_X9_reasonAgainstLink d rc rs 7 [some (.ref r0), some (.int l1), some (.int l2)] [] h P) (kf : l1 = l2 → SW sc m_X9_reasonAgainstLink d rc rs 5 [none, none, none] [] h P) : SW sc m_X9_reasonAgainstLink d rc rs 0 [some (.ref r0), some (.int l1), some (.int l2)] [] h P := by
  refine sw_iload_n dX9_reasonAgainstLink_0 rfl ?_
  refine sw_iload_n dX9_reasonAgainstLink_1 rfl ?_
  exact sw_icmp_ne dX9_reasonAgainstLink_2 (by decide) (fun q => (kt q)) (fun q => (sw_fg [true, true, true] rfl (kf q)))
theorem b_X9_reasonAgainstLink_5  (hP : P (.inl (some (.int 1))) h) : SW sc m_X9_reasonAgainstLink d rc rs 5 [none, none, none] [] h P := by
  refine sw_iconst (v := 1) dX9_reasonAgainstLink_5 (by decide) ?_
  exact sw_ret (v := (some (.int 1))) dX9_reasonAgainstLink_6 rt_i hP
theorem b_X9_reasonAgainstLink_7 {r0 : Nat} {l1 : Int32} {l2 : Int32} {fs2 : List Value} {a2 : Nat} {v5 : Int32} {g5 : ab_H} {fs5 : List Value} (hc2 : (h)[r0]? = some (9, fs2)) (hv2 : fs2[2]? = some (.ref a2)) (hr5 : (h)[a2]? = some (3, fs5)) (hm5 : MSE m_X3_hasEdge d [.ref a2, .int l1, .int l2] h (some (.int v5)) g5) (kt : v5 = 0 → SW sc m_X9_reasonAgainstLink (d + 1) rc rs 21 [some (.ref r0), some (.int l1), some (.int l2)] [] g5 P) (kf : ¬ (v5 = 0) → SW sc m_X9_reasonAgainstLink (d + 1) rc rs 19 [none, none, none] [] g5 P) : SW sc m_X9_reasonAgainstLink (d + 1) rc rs 7 [some (.ref r0), some (.int l1), some (.int l2)] [] h P := by
  refine sw_aload_n dX9_reasonAgainstLink_7 rfl ?_
  refine sw_getf dX9_reasonAgainstLink_8 lf_X9_26 hc2 hv2 ?_
  refine sw_iload_n dX9_reasonAgainstLink_11 rfl ?_
  refine sw_iload_n dX9_reasonAgainstLink_12 rfl ?_
  refine sw_cV dX9_reasonAgainstLink_13 lv_X9_263 hm5 hr5 rfl (by decide) rfl rfl rfl (Nat.le_of_ble_eq_true rfl) (fun _ _ => rfl) rfl ?_
  show SW sc m_X9_reasonAgainstLink _ _ _ 16 [some (.ref r0), some (.int l1), some (.int l2)] [.int v5] g5 P
  exact sw_if_eq dX9_reasonAgainstLink_16 (by decide) (fun q => (kt q)) (fun q => (sw_fg [true, true, true] rfl (kf q)))
theorem b_X9_reasonAgainstLink_19  (hP : P (.inl (some (.int 2))) h) : SW sc m_X9_reasonAgainstLink d rc rs 19 [none, none, none] [] h P := by
  refine sw_iconst (v := 2) dX9_reasonAgainstLink_19 (by decide) ?_
  exact sw_ret (v := (some (.int 2))) dX9_reasonAgainstLink_20 rt_i hP
theorem b_X9_reasonAgainstLink_21 {r0 : Nat} {l1 : Int32} {l2 : Int32} {fs2 : List Value} {a2 : Nat} {v5 : Int32} {g5 : ab_H} {fs5 : List Value} (hc2 : (h)[r0]? = some (9, fs2)) (hv2 : fs2[2]? = some (.ref a2)) (hr5 : (h)[a2]? = some (3, fs5)) (hm5 : MSE m_X3_steps d [.ref a2, .int l1, .int l2] h (some (.int v5)) g5) (kt : ¬ v5 = (-1) → SW sc m_X9_reasonAgainstLink (d + 1) rc rs 38 [none, none, none] [] g5 P) (kf : v5 = (-1) → SW sc m_X9_reasonAgainstLink (d + 1) rc rs 34 [none, none, none] [] g5 P) : SW sc m_X9_reasonAgainstLink (d + 1) rc rs 21 [some (.ref r0), some (.int l1), some (.int l2)] [] h P := by
  refine sw_aload_n dX9_reasonAgainstLink_21 rfl ?_
  refine sw_getf dX9_reasonAgainstLink_22 lf_X9_26 hc2 hv2 ?_
  refine sw_iload_n dX9_reasonAgainstLink_25 rfl ?_
  refine sw_iload_n dX9_reasonAgainstLink_26 rfl ?_
  refine sw_cV dX9_reasonAgainstLink_27 lv_X9_196 hm5 hr5 rfl (by decide) rfl rfl rfl (Nat.le_of_ble_eq_true rfl) (fun _ _ => rfl) rfl ?_
  show SW sc m_X9_reasonAgainstLink _ _ _ 30 [some (.ref r0), some (.int l1), some (.int l2)] [.int v5] g5 P
  refine sw_iconst (v := (-1)) dX9_reasonAgainstLink_30 (by decide) ?_
  exact sw_icmp_ne dX9_reasonAgainstLink_31 (by decide) (fun q => (sw_fg [true, true, true] rfl (kt q))) (fun q => (sw_fg [true, true, true] rfl (kf q)))
theorem b_X9_reasonAgainstLink_34  (k : SW sc m_X9_reasonAgainstLink d rc rs 39 [none, none, none] [.int 0] h P) : SW sc m_X9_reasonAgainstLink d rc rs 34 [none, none, none] [] h P := by
  refine sw_iconst (v := 0) dX9_reasonAgainstLink_34 (by decide) ?_
  exact sw_goto dX9_reasonAgainstLink_35 (by decide) (k)
theorem b_X9_reasonAgainstLink_38  (k : SW sc m_X9_reasonAgainstLink d rc rs 39 [none, none, none] [.int 3] h P) : SW sc m_X9_reasonAgainstLink d rc rs 38 [none, none, none] [] h P := by
  refine sw_iconst (v := 3) dX9_reasonAgainstLink_38 (by decide) ?_
  exact (k)
theorem b_X9_reasonAgainstLink_39 {s0 : Int32} (hP : P (.inl (some (.int s0))) h) : SW sc m_X9_reasonAgainstLink d rc rs 39 [none, none, none] [.int s0] h P := by
  exact sw_ret (v := (some (.int s0))) dX9_reasonAgainstLink_39 rt_i hP
theorem b_X9_reasonAgainstRegraft_0 {r0 : Nat} {l1 : Int32} {l2 : Int32} {l3 : Int32} {fs2 : List Value} {a2 : Nat} {v5 : Int32} {g5 : ab_H} {fs5 : List Value} (hc2 : (h)[r0]? = some (9, fs2)) (hv2 : fs2[2]? = some (.ref a2)) (hr5 : (h)[a2]? = some (3, fs5)) (hm5 : MSE m_X3_hasEdge d [.ref a2, .int l1, .int l2] h (some (.int v5)) g5) (kt : ¬ v5 = 0 → SW sc m_X9_reasonAgainstRegraft (d + 1) rc rs 14 [some (.ref r0), some (.int l1), some (.int l2), some (.int l3)] [] g5 P) (kf : v5 = 0 → SW sc m_X9_reasonAgainstRegraft (d + 1) rc rs 12 [none, none, none, none] [] g5 P) : SW sc m_X9_reasonAgainstRegraft (d + 1) rc rs 0 [some (.ref r0), some (.int l1), some (.int l2), some (.int l3)] [] h P := by
  refine sw_aload_n dX9_reasonAgainstRegraft_0 rfl ?_
  refine sw_getf dX9_reasonAgainstRegraft_1 lf_X9_26 hc2 hv2 ?_
  refine sw_iload_n dX9_reasonAgainstRegraft_4 rfl ?_
  refine sw_iload_n dX9_reasonAgainstRegraft_5 rfl ?_
  refine sw_cV dX9_reasonAgainstRegraft_6 lv_X9_263 hm5 hr5 rfl (by decide) rfl rfl rfl (Nat.le_of_ble_eq_true rfl) (fun _ _ => rfl) rfl ?_
  show SW sc m_X9_reasonAgainstRegraft _ _ _ 9 [some (.ref r0), some (.int l1), some (.int l2), some (.int l3)] [.int v5] g5 P
  exact sw_if_ne dX9_reasonAgainstRegraft_9 (by decide) (fun q => (kt q)) (fun q => (sw_fg [true, true, true, true] rfl (kf q)))
theorem b_X9_reasonAgainstRegraft_12  (hP : P (.inl (some (.int 1))) h) : SW sc m_X9_reasonAgainstRegraft d rc rs 12 [none, none, none, none] [] h P := by
  refine sw_iconst (v := 1) dX9_reasonAgainstRegraft_12 (by decide) ?_
  exact sw_ret (v := (some (.int 1))) dX9_reasonAgainstRegraft_13 rt_i hP
theorem b_X9_reasonAgainstRegraft_14 {r0 : Nat} {l1 : Int32} {l2 : Int32} {l3 : Int32} {fs2 : List Value} {a2 : Nat} {fs5 : List Value} {a5 : Nat} {v6 : Int32} {g6 : ab_H} {fs6 : List Value} {v8 : Int32} {g8 : ab_H} {v9 : Int32} {g9 : ab_H} {fs9 : List Value} {v11 : Int32} {g11 : ab_H} (hc2 : (h)[r0]? = some (9, fs2)) (hv2 : fs2[2]? = some (.ref a2)) (hc5 : (h)[r0]? = some (9, fs5)) (hv5 : fs5[2]? = some (.ref a5)) (hr6 : (h)[a5]? = some (3, fs6)) (hm6 : MSE m_X3_all d [.ref a5] h (some (.int v6)) g6) (hm8 : MSE m_X9_without d [.int v6, .int l2] g6 (some (.int v8)) g8) (hr9 : (g8)[a2]? = some (3, fs9)) (hm9 : MSE m_X3_reachable d [.ref a2, .int l1, .int v8] g8 (some (.int v9)) g9) (hm11 : MSE m_X9_holds d [.int v9, .int l3] g9 (some (.int v11)) g11) (kt : v11 = 0 → SW sc m_X9_reasonAgainstRegraft (d + 1) rc rs 44 [none, none, none, none] [] g11 P) (kf : ¬ (v11 = 0) → SW sc m_X9_reasonAgainstRegraft (d + 1) rc rs 40 [none, none, none, none] [] g11 P) : SW sc m_X9_reasonAgainstRegraft (d + 1) rc rs 14 [some (.ref r0), some (.int l1), some (.int l2), some (.int l3)] [] h P := by
  refine sw_aload_n dX9_reasonAgainstRegraft_14 rfl ?_
  refine sw_getf dX9_reasonAgainstRegraft_15 lf_X9_26 hc2 hv2 ?_
  refine sw_iload_n dX9_reasonAgainstRegraft_18 rfl ?_
  refine sw_aload_n dX9_reasonAgainstRegraft_19 rfl ?_
  refine sw_getf dX9_reasonAgainstRegraft_20 lf_X9_26 hc5 hv5 ?_
  refine sw_cV dX9_reasonAgainstRegraft_23 lv_X9_116 hm6 hr6 rfl (by decide) rfl rfl rfl (Nat.le_of_ble_eq_true rfl) (fun _ _ => rfl) rfl ?_
  show SW sc m_X9_reasonAgainstRegraft _ _ _ 26 [some (.ref r0), some (.int l1), some (.int l2), some (.int l3)] [.int v6, .int l1, .ref a2] g6 P
  refine sw_iload_n dX9_reasonAgainstRegraft_26 rfl ?_
  refine sw_cS dX9_reasonAgainstRegraft_27 ls_X9_380 hm8 rfl rfl (Nat.le_of_ble_eq_true rfl) (fun _ _ => rfl) rfl ?_
  show SW sc m_X9_reasonAgainstRegraft _ _ _ 30 [some (.ref r0), some (.int l1), some (.int l2), some (.int l3)] [.int v8, .int l1, .ref a2] g8 P
  refine sw_cV dX9_reasonAgainstRegraft_30 lv_X9_383 hm9 hr9 rfl (by decide) rfl rfl rfl (Nat.le_of_ble_eq_true rfl) (fun _ _ => rfl) rfl ?_
  show SW sc m_X9_reasonAgainstRegraft _ _ _ 33 [some (.ref r0), some (.int l1), some (.int l2), some (.int l3)] [.int v9] g9 P
  refine sw_iload_n dX9_reasonAgainstRegraft_33 rfl ?_
  refine sw_cS dX9_reasonAgainstRegraft_34 ls_X9_216 hm11 rfl rfl (Nat.le_of_ble_eq_true rfl) (fun _ _ => rfl) rfl ?_
  show SW sc m_X9_reasonAgainstRegraft _ _ _ 37 [some (.ref r0), some (.int l1), some (.int l2), some (.int l3)] [.int v11] g11 P
  exact sw_if_eq dX9_reasonAgainstRegraft_37 (by decide) (fun q => (sw_fg [true, true, true, true] rfl (kt q))) (fun q => (sw_fg [true, true, true, true] rfl (kf q)))
theorem b_X9_reasonAgainstRegraft_40  (k : SW sc m_X9_reasonAgainstRegraft d rc rs 45 [none, none, none, none] [.int 2] h P) : SW sc m_X9_reasonAgainstRegraft d rc rs 40 [none, none, none, none] [] h P := by
  refine sw_iconst (v := 2) dX9_reasonAgainstRegraft_40 (by decide) ?_
  exact sw_goto dX9_reasonAgainstRegraft_41 (by decide) (k)
theorem b_X9_reasonAgainstRegraft_44  (k : SW sc m_X9_reasonAgainstRegraft d rc rs 45 [none, none, none, none] [.int 0] h P) : SW sc m_X9_reasonAgainstRegraft d rc rs 44 [none, none, none, none] [] h P := by
  refine sw_iconst (v := 0) dX9_reasonAgainstRegraft_44 (by decide) ?_
  exact (k)
theorem b_X9_reasonAgainstRegraft_45 {s0 : Int32} (hP : P (.inl (some (.int s0))) h) : SW sc m_X9_reasonAgainstRegraft d rc rs 45 [none, none, none, none] [.int s0] h P := by
  exact sw_ret (v := (some (.int s0))) dX9_reasonAgainstRegraft_45 rt_i hP
theorem b_X9_becomeTree_0 {r0 : Nat} {l1 : Int32} {fs2 : List Value} {a2 : Nat} {fs4 : List Value} {a4 : Nat} {v5 : Nat} {g5 : ab_H} {fs5 : List Value} {fs8 : List Value} {a8 : Nat} {fs10 : List Value} {a10 : Nat} {fs11 : List Value} {x11 : Int32} {g13 : ab_H} {fs13 : List Value} {fs15 : List Value} {a15 : Nat} {fs17 : List Value} {a17 : Nat} {g18 : ab_H} {fs18 : List Value} {fs20 : List Value} {a20 : Nat} {vs23 : List Value} {x23 : Int32} {vs26 : List Value} {fs28 : List Value} {a28 : Nat} {v30 : Int32} {g30 : ab_H} {fs30 : List Value} (hc2 : (h)[r0]? = some (9, fs2)) (hv2 : fs2[8]? = some (.ref a2)) (hc4 : (h)[r0]? = some (9, fs4)) (hv4 : fs4[2]? = some (.ref a4)) (hr5 : (h)[a2]? = some (5, fs5)) (hm5 : MSE m_X5_record d [.ref a2, .ref a4] h (some (.ref v5)) g5) (hc8 : (g5)[r0]? = some (9, fs8)) (hv8 : fs8[4]? = some (.ref a8)) (hc10 : (g5)[r0]? = some (9, fs10)) (hv10 : fs10[2]? = some (.ref a10)) (hc11 : (g5)[a10]? = some (3, fs11)) (hv11 : fs11[2]? = some (.int x11)) (hr13 : (g5)[a8]? = some (1, fs13)) (hm13 : MSE m_X1_setRank d [.ref a8, .int x11, .int l1] g5 none g13) (hc15 : (g13)[r0]? = some (9, fs15)) (hv15 : fs15[4]? = some (.ref a15)) (hc17 : (g13)[r0]? = some (9, fs17)) (hv17 : fs17[2]? = some (.ref a17)) (hr18 : (g13)[a15]? = some (1, fs18)) (hm18 : MSE m_X1_plant d [.ref a15, .ref a17] g13 none g18) (hc20 : (g18)[r0]? = some (9, fs20)) (hv20 : fs20[9]? = some (.ref a20)) (hc23 : (g18)[a20]? = some (100, vs23)) (ho23 : ¬ 4 < 0) (hi23 : vs23[(4 : Int32).toNatClampNeg]? = some (.int x23)) (hc26 : (g18)[a20]? = some (100, vs26)) (ho26 : ¬ 4 < 0) (hl26 : (4 : Int32).toNatClampNeg < vs26.length) (hc28 : ((g18).set a20 (100, vs26.set (4 : Int32).toNatClampNeg (.int (x23 + 1))))[r0]? = some (9, fs28)) (hv28 : fs28[2]? = some (.ref a28)) (hr30 : ((g18).set a20 (100, vs26.set (4 : Int32).toNatClampNeg (.int (x23 + 1))))[a28]? = some (3, fs30)) (hm30 : MSE m_X3_edgesNotIn d [.ref a28, .ref v5] ((g18).set a20 (100, vs26.set (4 : Int32).toNatClampNeg (.int (x23 + 1)))) (some (.int v30)) g30) (hP : P (.inl (some (.int v30))) g30) : SW sc m_X9_becomeTree (d + 1) rc rs 0 [some (.ref r0), some (.int l1), none] [] h P := by
  refine sw_aload_n dX9_becomeTree_0 rfl ?_
  refine sw_getf dX9_becomeTree_1 lf_X9_64 hc2 hv2 ?_
  refine sw_aload_n dX9_becomeTree_4 rfl ?_
  refine sw_getf dX9_becomeTree_5 lf_X9_26 hc4 hv4 ?_
  refine sw_cV dX9_becomeTree_8 lv_X9_302 hm5 hr5 rfl (by decide) rfl rfl rfl (Nat.le_of_ble_eq_true rfl) (fun _ _ => rfl) rfl ?_
  show SW sc m_X9_becomeTree _ _ _ 11 [some (.ref r0), some (.int l1), none] [.ref v5] g5 P
  refine sw_astore_n dX9_becomeTree_11 (by decide) rfl ?_
  show SW sc m_X9_becomeTree _ _ _ 12 [some (.ref r0), some (.int l1), some (.ref v5)] [] g5 P
  refine sw_aload_n dX9_becomeTree_12 rfl ?_
  refine sw_getf dX9_becomeTree_13 lf_X9_36 hc8 hv8 ?_
  refine sw_aload_n dX9_becomeTree_16 rfl ?_
  refine sw_getf dX9_becomeTree_17 lf_X9_26 hc10 hv10 ?_
  refine sw_getf dX9_becomeTree_20 lf_X9_110 hc11 hv11 ?_
  refine sw_iload_n dX9_becomeTree_23 rfl ?_
  refine sw_cV dX9_becomeTree_24 lv_X9_386 hm13 hr13 rfl (by decide) rfl rfl rfl (Nat.le_of_ble_eq_true rfl) (fun _ _ => rfl) rfl ?_
  show SW sc m_X9_becomeTree _ _ _ 27 [some (.ref r0), some (.int l1), some (.ref v5)] [] g13 P
  refine sw_aload_n dX9_becomeTree_27 rfl ?_
  refine sw_getf dX9_becomeTree_28 lf_X9_36 hc15 hv15 ?_
  refine sw_aload_n dX9_becomeTree_31 rfl ?_
  refine sw_getf dX9_becomeTree_32 lf_X9_26 hc17 hv17 ?_
  refine sw_cV dX9_becomeTree_35 lv_X9_389 hm18 hr18 rfl (by decide) rfl rfl rfl (Nat.le_of_ble_eq_true rfl) (fun _ _ => rfl) rfl ?_
  show SW sc m_X9_becomeTree _ _ _ 38 [some (.ref r0), some (.int l1), some (.ref v5)] [] g18 P
  refine sw_aload_n dX9_becomeTree_38 rfl ?_
  refine sw_getf dX9_becomeTree_39 lf_X9_68 hc20 hv20 ?_
  refine sw_iconst (v := 4) dX9_becomeTree_42 (by decide) ?_
  refine sw_dup2 dX9_becomeTree_43 (fun _ _ => rfl) (fun _ _ => rfl) ?_
  refine sw_iald dX9_becomeTree_44 hc23 ho23 hi23 ?_
  refine sw_iconst (v := 1) dX9_becomeTree_45 (by decide) ?_
  refine sw_iadd dX9_becomeTree_46 ?_
  refine sw_iast dX9_becomeTree_47 hc26 ho26 hl26 ?_
  refine sw_aload_n dX9_becomeTree_48 rfl ?_
  refine sw_getf dX9_becomeTree_49 lf_X9_26 hc28 hv28 ?_
  refine sw_aload_n dX9_becomeTree_52 rfl ?_
  refine sw_cV dX9_becomeTree_53 lv_X9_324 hm30 hr30 rfl (by decide) rfl rfl rfl (Nat.le_of_ble_eq_true rfl) (fun _ _ => rfl) rfl ?_
  show SW sc m_X9_becomeTree _ _ _ 56 [some (.ref r0), some (.int l1), some (.ref v5)] [.int v30] g30 P
  exact sw_ret (v := (some (.int v30))) dX9_becomeTree_56 rt_i hP
theorem b_X9_roundOf_0 {r0 : Nat} {l1 : Int32} {fs2 : List Value} {a2 : Nat} {fs4 : List Value} {a4 : Nat} {g5 : ab_H} {fs5 : List Value} (hc2 : (h)[r0]? = some (9, fs2)) (hv2 : fs2[3]? = some (.ref a2)) (hc4 : (h)[r0]? = some (9, fs4)) (hv4 : fs4[2]? = some (.ref a4)) (hr5 : (h)[a2]? = some (3, fs5)) (hm5 : MSE m_X3_copy d [.ref a2, .ref a4] h none g5) (k : SW sc m_X9_roundOf (d + 1) rc rs 13 [some (.ref r0), some (.int l1), some (.int 0)] [] g5 P) : SW sc m_X9_roundOf (d + 1) rc rs 0 [some (.ref r0), some (.int l1), none] [] h P := by
  refine sw_aload_n dX9_roundOf_0 rfl ?_
  refine sw_getf dX9_roundOf_1 lf_X9_30 hc2 hv2 ?_
  refine sw_aload_n dX9_roundOf_4 rfl ?_
  refine sw_getf dX9_roundOf_5 lf_X9_26 hc4 hv4 ?_
  refine sw_cV dX9_roundOf_8 lv_X9_94 hm5 hr5 rfl (by decide) rfl rfl rfl (Nat.le_of_ble_eq_true rfl) (fun _ _ => rfl) rfl ?_
  show SW sc m_X9_roundOf _ _ _ 11 [some (.ref r0), some (.int l1), none] [] g5 P
  refine sw_iconst (v := 0) dX9_roundOf_11 (by decide) ?_
  refine sw_istore_n dX9_roundOf_12 (by decide) rfl ?_
  show SW sc m_X9_roundOf _ _ _ 13 [some (.ref r0), some (.int l1), some (.int 0)] [] g5 P
  exact (k)
theorem b_X9_roundOf_13 {r0 : Nat} {l1 : Int32} {l2 : Int32} (kt : 10 ≤ l2 → SW sc m_X9_roundOf d rc rs 43 [none, none, some (.int l2)] [] h P) (kf : ¬ (10 ≤ l2) → SW sc m_X9_roundOf d rc rs 19 [some (.ref r0), some (.int l1), some (.int l2)] [] h P) : SW sc m_X9_roundOf d rc rs 13 [some (.ref r0), some (.int l1), some (.int l2)] [] h P := by
  refine sw_iload_n dX9_roundOf_13 rfl ?_
  refine sw_bipush (v := 10) dX9_roundOf_14 (by decide) ?_
  exact sw_icmp_ge dX9_roundOf_16 (by decide) (fun q => (sw_fg [true, true, false] rfl (kt q))) (fun q => (kf q))
theorem b_X9_roundOf_19 {r0 : Nat} {l1 : Int32} {l2 : Int32} {fs2 : List Value} {a2 : Nat} {v4 : Int32} {g4 : ab_H} {fs4 : List Value} (hc2 : (h)[r0]? = some (9, fs2)) (hv2 : fs2[3]? = some (.ref a2)) (hr4 : (h)[a2]? = some (3, fs4)) (hm4 : MSE m_X3_degree d [.ref a2, .int l1] h (some (.int v4)) g4) (kt : v4 = 0 → SW sc m_X9_roundOf (d + 1) rc rs 43 [none, none, some (.int l2)] [] g4 P) (kf : ¬ (v4 = 0) → SW sc m_X9_roundOf (d + 1) rc rs 30 [some (.ref r0), some (.int l1), some (.int l2)] [] g4 P) : SW sc m_X9_roundOf (d + 1) rc rs 19 [some (.ref r0), some (.int l1), some (.int l2)] [] h P := by
  refine sw_aload_n dX9_roundOf_19 rfl ?_
  refine sw_getf dX9_roundOf_20 lf_X9_30 hc2 hv2 ?_
  refine sw_iload_n dX9_roundOf_23 rfl ?_
  refine sw_cV dX9_roundOf_24 lv_X9_149 hm4 hr4 rfl (by decide) rfl rfl rfl (Nat.le_of_ble_eq_true rfl) (fun _ _ => rfl) rfl ?_
  show SW sc m_X9_roundOf _ _ _ 27 [some (.ref r0), some (.int l1), some (.int l2)] [.int v4] g4 P
  exact sw_if_eq dX9_roundOf_27 (by decide) (fun q => (sw_fg [true, true, false] rfl (kt q))) (fun q => (kf q))
theorem b_X9_roundOf_30 {r0 : Nat} {l1 : Int32} {l2 : Int32} {fs2 : List Value} {a2 : Nat} {g3 : ab_H} {fs3 : List Value} (hc2 : (h)[r0]? = some (9, fs2)) (hv2 : fs2[3]? = some (.ref a2)) (hr3 : (h)[a2]? = some (3, fs3)) (hm3 : MSE m_X3_dropLeaves d [.ref a2] h none g3) (k : SW sc m_X9_roundOf (d + 1) rc rs 13 [some (.ref r0), some (.int l1), some (.int (l2 + 1))] [] g3 P) : SW sc m_X9_roundOf (d + 1) rc rs 30 [some (.ref r0), some (.int l1), some (.int l2)] [] h P := by
  refine sw_aload_n dX9_roundOf_30 rfl ?_
  refine sw_getf dX9_roundOf_31 lf_X9_30 hc2 hv2 ?_
  refine sw_cV dX9_roundOf_34 lv_X9_318 hm3 hr3 rfl (by decide) rfl rfl rfl (Nat.le_of_ble_eq_true rfl) (fun _ _ => rfl) rfl ?_
  show SW sc m_X9_roundOf _ _ _ 37 [some (.ref r0), some (.int l1), some (.int l2)] [] g3 P
  refine sw_iinc (v := l2 + 1) dX9_roundOf_37 rfl rfl (by decide) rfl ?_
  show SW sc m_X9_roundOf _ _ _ 40 [some (.ref r0), some (.int l1), some (.int (l2 + 1))] [] g3 P
  exact sw_goto dX9_roundOf_40 (by decide) (k)
theorem b_X9_roundOf_43 {l2 : Int32} (hP : P (.inl (some (.int l2))) h) : SW sc m_X9_roundOf d rc rs 43 [none, none, some (.int l2)] [] h P := by
  refine sw_iload_n dX9_roundOf_43 rfl ?_
  exact sw_ret (v := (some (.int l2))) dX9_roundOf_44 rt_i hP
theorem b_X9_holds_0 {l0 : Int32} {l1 : Int32} (kt : ((l0 >>> (l1 &&& 31)) &&& 1) = 0 → SW sc m_X9_holds d rc rs 12 [none, none] [] h P) (kf : ¬ (((l0 >>> (l1 &&& 31)) &&& 1) = 0) → SW sc m_X9_holds d rc rs 8 [none, none] [] h P) : SW sc m_X9_holds d rc rs 0 [some (.int l0), some (.int l1)] [] h P := by
  refine sw_iload_n dX9_holds_0 rfl ?_
  refine sw_iload_n dX9_holds_1 rfl ?_
  refine sw_ishr dX9_holds_2 ?_
  refine sw_iconst (v := 1) dX9_holds_3 (by decide) ?_
  refine sw_iand dX9_holds_4 ?_
  exact sw_if_eq dX9_holds_5 (by decide) (fun q => (sw_fg [true, true] rfl (kt q))) (fun q => (sw_fg [true, true] rfl (kf q)))
theorem b_X9_holds_8  (k : SW sc m_X9_holds d rc rs 13 [none, none] [.int 1] h P) : SW sc m_X9_holds d rc rs 8 [none, none] [] h P := by
  refine sw_iconst (v := 1) dX9_holds_8 (by decide) ?_
  exact sw_goto dX9_holds_9 (by decide) (k)
theorem b_X9_holds_12  (k : SW sc m_X9_holds d rc rs 13 [none, none] [.int 0] h P) : SW sc m_X9_holds d rc rs 12 [none, none] [] h P := by
  refine sw_iconst (v := 0) dX9_holds_12 (by decide) ?_
  exact (k)
theorem b_X9_holds_13 {s0 : Int32} (hz1 : narrow .boolean (.int s0) = .int s0) (hP : P (.inl (some (.int s0))) h) : SW sc m_X9_holds d rc rs 13 [none, none] [.int s0] h P := by
  exact sw_ret (v := (some (.int s0))) dX9_holds_13 (rt_n hz1) hP
theorem b_X9_without_0 {l0 : Int32} {l1 : Int32} (hP : P (.inl (some (.int (l0 &&& ((1 <<< (l1 &&& 31)) ^^^ (-1)))))) h) : SW sc m_X9_without d rc rs 0 [some (.int l0), some (.int l1)] [] h P := by
  refine sw_iload_n dX9_without_0 rfl ?_
  refine sw_iconst (v := 1) dX9_without_1 (by decide) ?_
  refine sw_iload_n dX9_without_2 rfl ?_
  refine sw_ishl dX9_without_3 ?_
  refine sw_iconst (v := (-1)) dX9_without_4 (by decide) ?_
  refine sw_ixor dX9_without_5 ?_
  refine sw_iand dX9_without_6 ?_
  exact sw_ret (v := (some (.int (l0 &&& ((1 <<< (l1 &&& 31)) ^^^ (-1)))))) dX9_without_7 rt_i hP
theorem b_X9_lowest_0 {l0 : Int32} (k : SW sc m_X9_lowest d rc rs 2 [some (.int l0), some (.int 0)] [] h P) : SW sc m_X9_lowest d rc rs 0 [some (.int l0), none] [] h P := by
  refine sw_iconst (v := 0) dX9_lowest_0 (by decide) ?_
  refine sw_istore_n dX9_lowest_1 (by decide) rfl ?_
  show SW sc m_X9_lowest _ _ _ 2 [some (.int l0), some (.int 0)] [] h P
  exact (k)
theorem b_X9_lowest_2 {l0 : Int32} {l1 : Int32} (kt : 10 ≤ l1 → SW sc m_X9_lowest d rc rs 24 [none, none] [] h P) (kf : ¬ (10 ≤ l1) → SW sc m_X9_lowest d rc rs 8 [some (.int l0), some (.int l1)] [] h P) : SW sc m_X9_lowest d rc rs 2 [some (.int l0), some (.int l1)] [] h P := by
  refine sw_iload_n dX9_lowest_2 rfl ?_
  refine sw_bipush (v := 10) dX9_lowest_3 (by decide) ?_
  exact sw_icmp_ge dX9_lowest_5 (by decide) (fun q => (sw_fg [true, true] rfl (kt q))) (fun q => (kf q))
theorem b_X9_lowest_8 {l0 : Int32} {l1 : Int32} {v3 : Int32} {g3 : ab_H} (hm3 : MSE m_X9_holds d [.int l0, .int l1] h (some (.int v3)) g3) (kt : v3 = 0 → SW sc m_X9_lowest (d + 1) rc rs 18 [some (.int l0), some (.int l1)] [] g3 P) (kf : ¬ (v3 = 0) → SW sc m_X9_lowest (d + 1) rc rs 16 [none, some (.int l1)] [] g3 P) : SW sc m_X9_lowest (d + 1) rc rs 8 [some (.int l0), some (.int l1)] [] h P := by
  refine sw_iload_n dX9_lowest_8 rfl ?_
  refine sw_iload_n dX9_lowest_9 rfl ?_
  refine sw_cS dX9_lowest_10 ls_X9_216 hm3 rfl rfl (Nat.le_of_ble_eq_true rfl) (fun _ _ => rfl) rfl ?_
  show SW sc m_X9_lowest _ _ _ 13 [some (.int l0), some (.int l1)] [.int v3] g3 P
  exact sw_if_eq dX9_lowest_13 (by decide) (fun q => (kt q)) (fun q => (sw_fg [true, false] rfl (kf q)))
theorem b_X9_lowest_16 {l1 : Int32} (hP : P (.inl (some (.int l1))) h) : SW sc m_X9_lowest d rc rs 16 [none, some (.int l1)] [] h P := by
  refine sw_iload_n dX9_lowest_16 rfl ?_
  exact sw_ret (v := (some (.int l1))) dX9_lowest_17 rt_i hP
theorem b_X9_lowest_18 {l0 : Int32} {l1 : Int32} (k : SW sc m_X9_lowest d rc rs 2 [some (.int l0), some (.int (l1 + 1))] [] h P) : SW sc m_X9_lowest d rc rs 18 [some (.int l0), some (.int l1)] [] h P := by
  refine sw_iinc (v := l1 + 1) dX9_lowest_18 rfl rfl (by decide) rfl ?_
  show SW sc m_X9_lowest _ _ _ 21 [some (.int l0), some (.int (l1 + 1))] [] h P
  exact sw_goto dX9_lowest_21 (by decide) (k)
theorem b_X9_lowest_24  (hP : P (.inl (some (.int (-1)))) h) : SW sc m_X9_lowest d rc rs 24 [none, none] [] h P := by
  refine sw_iconst (v := (-1)) dX9_lowest_24 (by decide) ?_
  exact sw_ret (v := (some (.int (-1)))) dX9_lowest_25 rt_i hP
theorem b_X9_factorial_0 {l0 : Int32} (k : SW sc m_X9_factorial d rc rs 4 [some (.int l0), some (.int 1), some (.int 2)] [] h P) : SW sc m_X9_factorial d rc rs 0 [some (.int l0), none, none] [] h P := by
  refine sw_iconst (v := 1) dX9_factorial_0 (by decide) ?_
  refine sw_istore_n dX9_factorial_1 (by decide) rfl ?_
  show SW sc m_X9_factorial _ _ _ 2 [some (.int l0), some (.int 1), none] [] h P
  refine sw_iconst (v := 2) dX9_factorial_2 (by decide) ?_
  refine sw_istore_n dX9_factorial_3 (by decide) rfl ?_
  show SW sc m_X9_factorial _ _ _ 4 [some (.int l0), some (.int 1), some (.int 2)] [] h P
  exact (k)
theorem b_X9_factorial_4 {l0 : Int32} {l1 : Int32} {l2 : Int32} (kt : l0 < l2 → SW sc m_X9_factorial d rc rs 19 [none, some (.int l1), none] [] h P) (kf : ¬ (l0 < l2) → SW sc m_X9_factorial d rc rs 9 [some (.int l0), some (.int l1), some (.int l2)] [] h P) : SW sc m_X9_factorial d rc rs 4 [some (.int l0), some (.int l1), some (.int l2)] [] h P := by
  refine sw_iload_n dX9_factorial_4 rfl ?_
  refine sw_iload_n dX9_factorial_5 rfl ?_
  exact sw_icmp_gt dX9_factorial_6 (by decide) (fun q => (sw_fg [true, false, true] rfl (kt q))) (fun q => (kf q))
theorem b_X9_factorial_9 {l0 : Int32} {l1 : Int32} {l2 : Int32} (k : SW sc m_X9_factorial d rc rs 4 [some (.int l0), some (.int (l1 * l2)), some (.int (l2 + 1))] [] h P) : SW sc m_X9_factorial d rc rs 9 [some (.int l0), some (.int l1), some (.int l2)] [] h P := by
  refine sw_iload_n dX9_factorial_9 rfl ?_
  refine sw_iload_n dX9_factorial_10 rfl ?_
  refine sw_imul dX9_factorial_11 ?_
  refine sw_istore_n dX9_factorial_12 (by decide) rfl ?_
  show SW sc m_X9_factorial _ _ _ 13 [some (.int l0), some (.int (l1 * l2)), some (.int l2)] [] h P
  refine sw_iinc (v := l2 + 1) dX9_factorial_13 rfl rfl (by decide) rfl ?_
  show SW sc m_X9_factorial _ _ _ 16 [some (.int l0), some (.int (l1 * l2)), some (.int (l2 + 1))] [] h P
  exact sw_goto dX9_factorial_16 (by decide) (k)
theorem b_X9_factorial_19 {l1 : Int32} (hP : P (.inl (some (.int l1))) h) : SW sc m_X9_factorial d rc rs 19 [none, some (.int l1), none] [] h P := by
  refine sw_iload_n dX9_factorial_19 rfl ?_
  exact sw_ret (v := (some (.int l1))) dX9_factorial_20 rt_i hP
theorem b_X9_quotient_0 {l0 : Int32} {l1 : Int32} (kt : ¬ l1 = 0 → SW sc m_X9_quotient d rc rs 8 [some (.int l0), some (.int l1)] [] h P) (kf : l1 = 0 → SW sc m_X9_quotient d rc rs 4 [none, none] [] h P) : SW sc m_X9_quotient d rc rs 0 [some (.int l0), some (.int l1)] [] h P := by
  refine sw_iload_n dX9_quotient_0 rfl ?_
  exact sw_if_ne dX9_quotient_1 (by decide) (fun q => (kt q)) (fun q => (sw_fg [true, true] rfl (kf q)))
theorem b_X9_quotient_4  (k : SW sc m_X9_quotient d rc rs 11 [none, none] [.int 0] h P) : SW sc m_X9_quotient d rc rs 4 [none, none] [] h P := by
  refine sw_iconst (v := 0) dX9_quotient_4 (by decide) ?_
  exact sw_goto dX9_quotient_5 (by decide) (k)
theorem b_X9_quotient_8 {l0 : Int32} {l1 : Int32} (hz3 : ¬ l1 = 0) (k : SW sc m_X9_quotient d rc rs 11 [none, none] [.int (l0 / l1)] h P) : SW sc m_X9_quotient d rc rs 8 [some (.int l0), some (.int l1)] [] h P := by
  refine sw_iload_n dX9_quotient_8 rfl ?_
  refine sw_iload_n dX9_quotient_9 rfl ?_
  refine sw_idiv dX9_quotient_10 hz3 ?_
  exact (sw_fg [true, true] rfl (k))
theorem b_X9_quotient_11 {s0 : Int32} (hP : P (.inl (some (.int s0))) h) : SW sc m_X9_quotient d rc rs 11 [none, none] [.int s0] h P := by
  exact sw_ret (v := (some (.int s0))) dX9_quotient_11 rt_i hP
theorem b_X9_codeLength_0 {l0 : Int32} {v5 : Int32} {g5 : ab_H} (hm5 : MSE m_J9_max_7cf53 d [.int (l0 - 2), .int 0] h (some (.int v5)) g5) (hP : P (.inl (some (.int v5))) g5) : SW sc m_X9_codeLength (d + 1) rc rs 0 [some (.int l0)] [] h P := by
  refine sw_iload_n dX9_codeLength_0 rfl ?_
  refine sw_iconst (v := 2) dX9_codeLength_1 (by decide) ?_
  refine sw_isub dX9_codeLength_2 ?_
  refine sw_iconst (v := 0) dX9_codeLength_3 (by decide) ?_
  refine sw_cS dX9_codeLength_4 ls_X9_392 hm5 rfl rfl (Nat.le_of_ble_eq_true rfl) (fun _ _ => rfl) rfl ?_
  show SW sc m_X9_codeLength _ _ _ 7 [some (.int l0)] [.int v5] g5 P
  exact sw_ret (v := (some (.int v5))) dX9_codeLength_7 rt_i hP
theorem b_X9_treesWith_0 {l0 : Int32} (k : SW sc m_X9_treesWith d rc rs 4 [some (.int l0), some (.int 1), some (.int 0)] [] h P) : SW sc m_X9_treesWith d rc rs 0 [some (.int l0), none, none] [] h P := by
  refine sw_iconst (v := 1) dX9_treesWith_0 (by decide) ?_
  refine sw_istore_n dX9_treesWith_1 (by decide) rfl ?_
  show SW sc m_X9_treesWith _ _ _ 2 [some (.int l0), some (.int 1), none] [] h P
  refine sw_iconst (v := 0) dX9_treesWith_2 (by decide) ?_
  refine sw_istore_n dX9_treesWith_3 (by decide) rfl ?_
  show SW sc m_X9_treesWith _ _ _ 4 [some (.int l0), some (.int 1), some (.int 0)] [] h P
  exact (k)
theorem b_X9_treesWith_4 {l0 : Int32} {l1 : Int32} {l2 : Int32} {v3 : Int32} {g3 : ab_H} (hm3 : MSE m_X9_codeLength d [.int l0] h (some (.int v3)) g3) (kt : v3 ≤ l2 → SW sc m_X9_treesWith (d + 1) rc rs 22 [none, some (.int l1), none] [] g3 P) (kf : ¬ (v3 ≤ l2) → SW sc m_X9_treesWith (d + 1) rc rs 12 [some (.int l0), some (.int l1), some (.int l2)] [] g3 P) : SW sc m_X9_treesWith (d + 1) rc rs 4 [some (.int l0), some (.int l1), some (.int l2)] [] h P := by
  refine sw_iload_n dX9_treesWith_4 rfl ?_
  refine sw_iload_n dX9_treesWith_5 rfl ?_
  refine sw_cS dX9_treesWith_6 ls_X9_227 hm3 rfl rfl (Nat.le_of_ble_eq_true rfl) (fun _ _ => rfl) rfl ?_
  show SW sc m_X9_treesWith _ _ _ 9 [some (.int l0), some (.int l1), some (.int l2)] [.int v3, .int l2] g3 P
  exact sw_icmp_ge dX9_treesWith_9 (by decide) (fun q => (sw_fg [true, false, true] rfl (kt q))) (fun q => (kf q))
theorem b_X9_treesWith_12 {l0 : Int32} {l1 : Int32} {l2 : Int32} (k : SW sc m_X9_treesWith d rc rs 4 [some (.int l0), some (.int (l1 * l0)), some (.int (l2 + 1))] [] h P) : SW sc m_X9_treesWith d rc rs 12 [some (.int l0), some (.int l1), some (.int l2)] [] h P := by
  refine sw_iload_n dX9_treesWith_12 rfl ?_
  refine sw_iload_n dX9_treesWith_13 rfl ?_
  refine sw_imul dX9_treesWith_14 ?_
  refine sw_istore_n dX9_treesWith_15 (by decide) rfl ?_
  show SW sc m_X9_treesWith _ _ _ 16 [some (.int l0), some (.int (l1 * l0)), some (.int l2)] [] h P
  refine sw_iinc (v := l2 + 1) dX9_treesWith_16 rfl rfl (by decide) rfl ?_
  show SW sc m_X9_treesWith _ _ _ 19 [some (.int l0), some (.int (l1 * l0)), some (.int (l2 + 1))] [] h P
  exact sw_goto dX9_treesWith_19 (by decide) (k)
theorem b_X9_treesWith_22 {l1 : Int32} (hP : P (.inl (some (.int l1))) h) : SW sc m_X9_treesWith d rc rs 22 [none, some (.int l1), none] [] h P := by
  refine sw_iload_n dX9_treesWith_22 rfl ?_
  exact sw_ret (v := (some (.int l1))) dX9_treesWith_23 rt_i hP
end
