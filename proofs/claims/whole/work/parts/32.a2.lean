section
variable {sc : Option (List Int32)} {d rc rs : Nat} {h : ab_H} {P : ab_O → ab_H → Prop}
theorem b_X3_nearOf_0 {r0 : Nat} {l1 : Int32} (kt : l1 < 0 → SW sc m_X3_nearOf d rc rs 19 [none, none] [] h P) (kf : ¬ (l1 < 0) → SW sc m_X3_nearOf d rc rs 4 [some (.ref r0), some (.int l1)] [] h P) : SW sc m_X3_nearOf d rc rs 0 [some (.ref r0), some (.int l1)] [] h P := by
  refine sw_iload_n dX3_nearOf_0 rfl ?_
  exact sw_if_lt dX3_nearOf_1 (by decide) (fun q => (sw_fg [true, true] rfl (kt q))) (fun q => (kf q))
theorem b_X3_nearOf_4 {r0 : Nat} {l1 : Int32} (kt : 10 ≤ l1 → SW sc m_X3_nearOf d rc rs 19 [none, none] [] h P) (kf : ¬ (10 ≤ l1) → SW sc m_X3_nearOf d rc rs 10 [some (.ref r0), some (.int l1)] [] h P) : SW sc m_X3_nearOf d rc rs 4 [some (.ref r0), some (.int l1)] [] h P := by
  refine sw_iload_n dX3_nearOf_4 rfl ?_
  refine sw_bipush (v := 10) dX3_nearOf_5 (by decide) ?_
  exact sw_icmp_ge dX3_nearOf_7 (by decide) (fun q => (sw_fg [true, true] rfl (kt q))) (fun q => (kf q))
theorem b_X3_nearOf_10 {r0 : Nat} {l1 : Int32} {fs2 : List Value} {a2 : Nat} {vs4 : List Value} {x4 : Int32} (hc2 : (h)[r0]? = some (3, fs2)) (hv2 : fs2[0]? = some (.ref a2)) (hc4 : (h)[a2]? = some (100, vs4)) (ho4 : ¬ l1 < 0) (hi4 : vs4[l1.toNatClampNeg]? = some (.int x4)) (k : SW sc m_X3_nearOf d rc rs 20 [none, none] [.int x4] h P) : SW sc m_X3_nearOf d rc rs 10 [some (.ref r0), some (.int l1)] [] h P := by
  refine sw_aload_n dX3_nearOf_10 rfl ?_
  refine sw_getf dX3_nearOf_11 lf_X3_9 hc2 hv2 ?_
  refine sw_iload_n dX3_nearOf_14 rfl ?_
  refine sw_iald dX3_nearOf_15 hc4 ho4 hi4 ?_
  exact sw_goto dX3_nearOf_16 (by decide) (sw_fg [true, true] rfl (k))
theorem b_X3_nearOf_19  (k : SW sc m_X3_nearOf d rc rs 20 [none, none] [.int 0] h P) : SW sc m_X3_nearOf d rc rs 19 [none, none] [] h P := by
  refine sw_iconst (v := 0) dX3_nearOf_19 (by decide) ?_
  exact (k)
theorem b_X3_nearOf_20 {s0 : Int32} (hP : P (.inl (some (.int s0))) h) : SW sc m_X3_nearOf d rc rs 20 [none, none] [.int s0] h P := by
  exact sw_ret (v := (some (.int s0))) dX3_nearOf_20 rt_i hP
theorem b_X3_degree_0 {r0 : Nat} {l1 : Int32} {v3 : Int32} {g3 : ab_H} {fs3 : List Value} {v4 : Int32} {g4 : ab_H} (hr3 : (h)[r0]? = some (3, fs3)) (hm3 : MSE m_X3_nearOf d [.ref r0, .int l1] h (some (.int v3)) g3) (hm4 : MSE m_J6_bitCount_0f7a4 d [.int v3] g3 (some (.int v4)) g4) (hP : P (.inl (some (.int v4))) g4) : SW sc m_X3_degree (d + 1) rc rs 0 [some (.ref r0), some (.int l1)] [] h P := by
  refine sw_aload_n dX3_degree_0 rfl ?_
  refine sw_iload_n dX3_degree_1 rfl ?_
  refine sw_cV (M := m_X3_degree) dX3_degree_2 lv_X3_43 hm3 hr3 rfl (by decide) rfl rfl rfl (Nat.le_of_ble_eq_true rfl) (fun _ _ => rfl) rfl ?_
  show SW sc m_X3_degree _ _ _ 5 [some (.ref r0), some (.int l1)] [.int v3] g3 P
  refine sw_cS (M := m_X3_degree) dX3_degree_5 ls_X3_37 hm4 rfl rfl (Nat.le_of_ble_eq_true rfl) (fun _ _ => rfl) rfl ?_
  show SW sc m_X3_degree _ _ _ 8 [some (.ref r0), some (.int l1)] [.int v4] g4 P
  exact sw_ret (v := (some (.int v4))) dX3_degree_8 rt_i hP
theorem b_X3_hasEdge_0 {r0 : Nat} {l1 : Int32} {l2 : Int32} {v3 : Int32} {g3 : ab_H} {fs3 : List Value} (hr3 : (h)[r0]? = some (3, fs3)) (hm3 : MSE m_X3_isVertex d [.ref r0, .int l2] h (some (.int v3)) g3) (kt : v3 = 0 → SW sc m_X3_hasEdge (d + 1) rc rs 24 [none, none, none] [] g3 P) (kf : ¬ (v3 = 0) → SW sc m_X3_hasEdge (d + 1) rc rs 8 [some (.ref r0), some (.int l1), some (.int l2)] [] g3 P) : SW sc m_X3_hasEdge (d + 1) rc rs 0 [some (.ref r0), some (.int l1), some (.int l2)] [] h P := by
  refine sw_aload_n dX3_hasEdge_0 rfl ?_
  refine sw_iload_n dX3_hasEdge_1 rfl ?_
  refine sw_cV (M := m_X3_hasEdge) dX3_hasEdge_2 lv_X3_46 hm3 hr3 rfl (by decide) rfl rfl rfl (Nat.le_of_ble_eq_true rfl) (fun _ _ => rfl) rfl ?_
  show SW sc m_X3_hasEdge _ _ _ 5 [some (.ref r0), some (.int l1), some (.int l2)] [.int v3] g3 P
  exact sw_if_eq dX3_hasEdge_5 (by decide) (fun q => (sw_fg [true, true, true] rfl (kt q))) (fun q => (kf q))
theorem b_X3_hasEdge_8 {r0 : Nat} {l1 : Int32} {l2 : Int32} {v3 : Int32} {g3 : ab_H} {fs3 : List Value} {v5 : Int32} {g5 : ab_H} (hr3 : (h)[r0]? = some (3, fs3)) (hm3 : MSE m_X3_nearOf d [.ref r0, .int l1] h (some (.int v3)) g3) (hm5 : MSE m_X9_holds d [.int v3, .int l2] g3 (some (.int v5)) g5) (kt : v5 = 0 → SW sc m_X3_hasEdge (d + 1) rc rs 24 [none, none, none] [] g5 P) (kf : ¬ (v5 = 0) → SW sc m_X3_hasEdge (d + 1) rc rs 20 [none, none, none] [] g5 P) : SW sc m_X3_hasEdge (d + 1) rc rs 8 [some (.ref r0), some (.int l1), some (.int l2)] [] h P := by
  refine sw_aload_n dX3_hasEdge_8 rfl ?_
  refine sw_iload_n dX3_hasEdge_9 rfl ?_
  refine sw_cV (M := m_X3_hasEdge) dX3_hasEdge_10 lv_X3_43 hm3 hr3 rfl (by decide) rfl rfl rfl (Nat.le_of_ble_eq_true rfl) (fun _ _ => rfl) rfl ?_
  show SW sc m_X3_hasEdge _ _ _ 13 [some (.ref r0), some (.int l1), some (.int l2)] [.int v3] g3 P
  refine sw_iload_n dX3_hasEdge_13 rfl ?_
  refine sw_cS (M := m_X3_hasEdge) dX3_hasEdge_14 ls_X3_50 hm5 rfl rfl (Nat.le_of_ble_eq_true rfl) (fun _ _ => rfl) rfl ?_
  show SW sc m_X3_hasEdge _ _ _ 17 [some (.ref r0), some (.int l1), some (.int l2)] [.int v5] g5 P
  exact sw_if_eq dX3_hasEdge_17 (by decide) (fun q => (sw_fg [true, true, true] rfl (kt q))) (fun q => (sw_fg [true, true, true] rfl (kf q)))
theorem b_X3_hasEdge_20  (k : SW sc m_X3_hasEdge d rc rs 25 [none, none, none] [.int 1] h P) : SW sc m_X3_hasEdge d rc rs 20 [none, none, none] [] h P := by
  refine sw_iconst (v := 1) dX3_hasEdge_20 (by decide) ?_
  exact sw_goto dX3_hasEdge_21 (by decide) (k)
theorem b_X3_hasEdge_24  (k : SW sc m_X3_hasEdge d rc rs 25 [none, none, none] [.int 0] h P) : SW sc m_X3_hasEdge d rc rs 24 [none, none, none] [] h P := by
  refine sw_iconst (v := 0) dX3_hasEdge_24 (by decide) ?_
  exact (k)
theorem b_X3_hasEdge_25 {s0 : Int32} (hz1 : narrow .boolean (.int s0) = .int s0) (hP : P (.inl (some (.int s0))) h) : SW sc m_X3_hasEdge d rc rs 25 [none, none, none] [.int s0] h P := by
  exact sw_ret (v := (some (.int s0))) dX3_hasEdge_25 (rt_n hz1) hP
theorem b_X3_join_0 {r0 : Nat} {l1 : Int32} {l2 : Int32} {v3 : Int32} {g3 : ab_H} {fs3 : List Value} (hr3 : (h)[r0]? = some (3, fs3)) (hm3 : MSE m_X3_isVertex d [.ref r0, .int l1] h (some (.int v3)) g3) (kt : v3 = 0 → SW sc m_X3_join (d + 1) rc rs 45 [none, none, none] [] g3 P) (kf : ¬ (v3 = 0) → SW sc m_X3_join (d + 1) rc rs 8 [some (.ref r0), some (.int l1), some (.int l2)] [] g3 P) : SW sc m_X3_join (d + 1) rc rs 0 [some (.ref r0), some (.int l1), some (.int l2)] [] h P := by
  refine sw_aload_n dX3_join_0 rfl ?_
  refine sw_iload_n dX3_join_1 rfl ?_
  refine sw_cV (M := m_X3_join) dX3_join_2 lv_X3_46 hm3 hr3 rfl (by decide) rfl rfl rfl (Nat.le_of_ble_eq_true rfl) (fun _ _ => rfl) rfl ?_
  show SW sc m_X3_join _ _ _ 5 [some (.ref r0), some (.int l1), some (.int l2)] [.int v3] g3 P
  exact sw_if_eq dX3_join_5 (by decide) (fun q => (sw_fg [true, true, true] rfl (kt q))) (fun q => (kf q))
theorem b_X3_join_8 {r0 : Nat} {l1 : Int32} {l2 : Int32} {v3 : Int32} {g3 : ab_H} {fs3 : List Value} (hr3 : (h)[r0]? = some (3, fs3)) (hm3 : MSE m_X3_isVertex d [.ref r0, .int l2] h (some (.int v3)) g3) (kt : v3 = 0 → SW sc m_X3_join (d + 1) rc rs 45 [none, none, none] [] g3 P) (kf : ¬ (v3 = 0) → SW sc m_X3_join (d + 1) rc rs 16 [some (.ref r0), some (.int l1), some (.int l2)] [] g3 P) : SW sc m_X3_join (d + 1) rc rs 8 [some (.ref r0), some (.int l1), some (.int l2)] [] h P := by
  refine sw_aload_n dX3_join_8 rfl ?_
  refine sw_iload_n dX3_join_9 rfl ?_
  refine sw_cV (M := m_X3_join) dX3_join_10 lv_X3_46 hm3 hr3 rfl (by decide) rfl rfl rfl (Nat.le_of_ble_eq_true rfl) (fun _ _ => rfl) rfl ?_
  show SW sc m_X3_join _ _ _ 13 [some (.ref r0), some (.int l1), some (.int l2)] [.int v3] g3 P
  exact sw_if_eq dX3_join_13 (by decide) (fun q => (sw_fg [true, true, true] rfl (kt q))) (fun q => (kf q))
theorem b_X3_join_16 {r0 : Nat} {l1 : Int32} {l2 : Int32} (kt : l1 = l2 → SW sc m_X3_join d rc rs 45 [none, none, none] [] h P) (kf : ¬ (l1 = l2) → SW sc m_X3_join d rc rs 21 [some (.ref r0), some (.int l1), some (.int l2)] [] h P) : SW sc m_X3_join d rc rs 16 [some (.ref r0), some (.int l1), some (.int l2)] [] h P := by
  refine sw_iload_n dX3_join_16 rfl ?_
  refine sw_iload_n dX3_join_17 rfl ?_
  exact sw_icmp_eq dX3_join_18 (by decide) (fun q => (sw_fg [true, true, true] rfl (kt q))) (fun q => (kf q))
theorem b_X3_join_21 {r0 : Nat} {l1 : Int32} {l2 : Int32} {fs2 : List Value} {a2 : Nat} {vs5 : List Value} {x5 : Int32} {vs10 : List Value} {fs12 : List Value} {a12 : Nat} {vs15 : List Value} {x15 : Int32} {vs20 : List Value} (hc2 : (h)[r0]? = some (3, fs2)) (hv2 : fs2[0]? = some (.ref a2)) (hc5 : (h)[a2]? = some (100, vs5)) (ho5 : ¬ l1 < 0) (hi5 : vs5[l1.toNatClampNeg]? = some (.int x5)) (hc10 : (h)[a2]? = some (100, vs10)) (ho10 : ¬ l1 < 0) (hl10 : l1.toNatClampNeg < vs10.length) (hc12 : ((h).set a2 (100, vs10.set l1.toNatClampNeg (.int (x5 ||| (1 <<< (l2 &&& 31))))))[r0]? = some (3, fs12)) (hv12 : fs12[0]? = some (.ref a12)) (hc15 : ((h).set a2 (100, vs10.set l1.toNatClampNeg (.int (x5 ||| (1 <<< (l2 &&& 31))))))[a12]? = some (100, vs15)) (ho15 : ¬ l2 < 0) (hi15 : vs15[l2.toNatClampNeg]? = some (.int x15)) (hc20 : ((h).set a2 (100, vs10.set l1.toNatClampNeg (.int (x5 ||| (1 <<< (l2 &&& 31))))))[a12]? = some (100, vs20)) (ho20 : ¬ l2 < 0) (hl20 : l2.toNatClampNeg < vs20.length) (k : SW sc m_X3_join d rc rs 45 [none, none, none] [] (((h).set a2 (100, vs10.set l1.toNatClampNeg (.int (x5 ||| (1 <<< (l2 &&& 31)))))).set a12 (100, vs20.set l2.toNatClampNeg (.int (x15 ||| (1 <<< (l1 &&& 31)))))) P) : SW sc m_X3_join d rc rs 21 [some (.ref r0), some (.int l1), some (.int l2)] [] h P := by
  refine sw_aload_n dX3_join_21 rfl ?_
  refine sw_getf dX3_join_22 lf_X3_9 hc2 hv2 ?_
  refine sw_iload_n dX3_join_25 rfl ?_
  refine sw_dup2 dX3_join_26 (fun _ _ => rfl) (fun _ _ => rfl) ?_
  refine sw_iald dX3_join_27 hc5 ho5 hi5 ?_
  refine sw_iconst (v := 1) dX3_join_28 (by decide) ?_
  refine sw_iload_n dX3_join_29 rfl ?_
  refine sw_ishl dX3_join_30 ?_
  refine sw_ior dX3_join_31 ?_
  refine sw_iast dX3_join_32 hc10 ho10 hl10 ?_
  refine sw_aload_n dX3_join_33 rfl ?_
  refine sw_getf dX3_join_34 lf_X3_9 hc12 hv12 ?_
  refine sw_iload_n dX3_join_37 rfl ?_
  refine sw_dup2 dX3_join_38 (fun _ _ => rfl) (fun _ _ => rfl) ?_
  refine sw_iald dX3_join_39 hc15 ho15 hi15 ?_
  refine sw_iconst (v := 1) dX3_join_40 (by decide) ?_
  refine sw_iload_n dX3_join_41 rfl ?_
  refine sw_ishl dX3_join_42 ?_
  refine sw_ior dX3_join_43 ?_
  refine sw_iast dX3_join_44 hc20 ho20 hl20 ?_
  exact (sw_fg [true, true, true] rfl (k))
theorem b_X3_join_45  (hP : P (.inl none) h) : SW sc m_X3_join d rc rs 45 [none, none, none] [] h P := by
  exact sw_ret (v := none) dX3_join_45 rt_v hP
theorem b_X3_part_0 {r0 : Nat} {l1 : Int32} {l2 : Int32} {v3 : Int32} {g3 : ab_H} {fs3 : List Value} (hr3 : (h)[r0]? = some (3, fs3)) (hm3 : MSE m_X3_isVertex d [.ref r0, .int l1] h (some (.int v3)) g3) (kt : v3 = 0 → SW sc m_X3_part (d + 1) rc rs 48 [none, none, none] [] g3 P) (kf : ¬ (v3 = 0) → SW sc m_X3_part (d + 1) rc rs 8 [some (.ref r0), some (.int l1), some (.int l2)] [] g3 P) : SW sc m_X3_part (d + 1) rc rs 0 [some (.ref r0), some (.int l1), some (.int l2)] [] h P := by
  refine sw_aload_n dX3_part_0 rfl ?_
  refine sw_iload_n dX3_part_1 rfl ?_
  refine sw_cV (M := m_X3_part) dX3_part_2 lv_X3_46 hm3 hr3 rfl (by decide) rfl rfl rfl (Nat.le_of_ble_eq_true rfl) (fun _ _ => rfl) rfl ?_
  show SW sc m_X3_part _ _ _ 5 [some (.ref r0), some (.int l1), some (.int l2)] [.int v3] g3 P
  exact sw_if_eq dX3_part_5 (by decide) (fun q => (sw_fg [true, true, true] rfl (kt q))) (fun q => (kf q))
theorem b_X3_part_8 {r0 : Nat} {l1 : Int32} {l2 : Int32} {v3 : Int32} {g3 : ab_H} {fs3 : List Value} (hr3 : (h)[r0]? = some (3, fs3)) (hm3 : MSE m_X3_isVertex d [.ref r0, .int l2] h (some (.int v3)) g3) (kt : v3 = 0 → SW sc m_X3_part (d + 1) rc rs 48 [none, none, none] [] g3 P) (kf : ¬ (v3 = 0) → SW sc m_X3_part (d + 1) rc rs 16 [some (.ref r0), some (.int l1), some (.int l2)] [] g3 P) : SW sc m_X3_part (d + 1) rc rs 8 [some (.ref r0), some (.int l1), some (.int l2)] [] h P := by
  refine sw_aload_n dX3_part_8 rfl ?_
  refine sw_iload_n dX3_part_9 rfl ?_
  refine sw_cV (M := m_X3_part) dX3_part_10 lv_X3_46 hm3 hr3 rfl (by decide) rfl rfl rfl (Nat.le_of_ble_eq_true rfl) (fun _ _ => rfl) rfl ?_
  show SW sc m_X3_part _ _ _ 13 [some (.ref r0), some (.int l1), some (.int l2)] [.int v3] g3 P
  exact sw_if_eq dX3_part_13 (by decide) (fun q => (sw_fg [true, true, true] rfl (kt q))) (fun q => (kf q))
theorem b_X3_part_16 {r0 : Nat} {l1 : Int32} {l2 : Int32} {fs2 : List Value} {a2 : Nat} {fs5 : List Value} {a5 : Nat} {vs7 : List Value} {x7 : Int32} {v9 : Int32} {g9 : ab_H} {vs10 : List Value} {fs12 : List Value} {a12 : Nat} {fs15 : List Value} {a15 : Nat} {vs17 : List Value} {x17 : Int32} {v19 : Int32} {g19 : ab_H} {vs20 : List Value} (hc2 : (h)[r0]? = some (3, fs2)) (hv2 : fs2[0]? = some (.ref a2)) (hc5 : (h)[r0]? = some (3, fs5)) (hv5 : fs5[0]? = some (.ref a5)) (hc7 : (h)[a5]? = some (100, vs7)) (ho7 : ¬ l1 < 0) (hi7 : vs7[l1.toNatClampNeg]? = some (.int x7)) (hm9 : MSE m_X9_without d [.int x7, .int l2] h (some (.int v9)) g9) (hc10 : (g9)[a2]? = some (100, vs10)) (ho10 : ¬ l1 < 0) (hl10 : l1.toNatClampNeg < vs10.length) (hc12 : ((g9).set a2 (100, vs10.set l1.toNatClampNeg (.int v9)))[r0]? = some (3, fs12)) (hv12 : fs12[0]? = some (.ref a12)) (hc15 : ((g9).set a2 (100, vs10.set l1.toNatClampNeg (.int v9)))[r0]? = some (3, fs15)) (hv15 : fs15[0]? = some (.ref a15)) (hc17 : ((g9).set a2 (100, vs10.set l1.toNatClampNeg (.int v9)))[a15]? = some (100, vs17)) (ho17 : ¬ l2 < 0) (hi17 : vs17[l2.toNatClampNeg]? = some (.int x17)) (hm19 : MSE m_X9_without d [.int x17, .int l1] ((g9).set a2 (100, vs10.set l1.toNatClampNeg (.int v9))) (some (.int v19)) g19) (hc20 : (g19)[a12]? = some (100, vs20)) (ho20 : ¬ l2 < 0) (hl20 : l2.toNatClampNeg < vs20.length) (k : SW sc m_X3_part (d + 1) rc rs 48 [none, none, none] [] ((g19).set a12 (100, vs20.set l2.toNatClampNeg (.int v19))) P) : SW sc m_X3_part (d + 1) rc rs 16 [some (.ref r0), some (.int l1), some (.int l2)] [] h P := by
  refine sw_aload_n dX3_part_16 rfl ?_
  refine sw_getf dX3_part_17 lf_X3_9 hc2 hv2 ?_
  refine sw_iload_n dX3_part_20 rfl ?_
  refine sw_aload_n dX3_part_21 rfl ?_
  refine sw_getf dX3_part_22 lf_X3_9 hc5 hv5 ?_
  refine sw_iload_n dX3_part_25 rfl ?_
  refine sw_iald dX3_part_26 hc7 ho7 hi7 ?_
  refine sw_iload_n dX3_part_27 rfl ?_
  refine sw_cS (M := m_X3_part) dX3_part_28 ls_X3_54 hm9 rfl rfl (Nat.le_of_ble_eq_true rfl) (fun _ _ => rfl) rfl ?_
  show SW sc m_X3_part _ _ _ 31 [some (.ref r0), some (.int l1), some (.int l2)] [.int v9, .int l1, .ref a2] g9 P
  refine sw_iast dX3_part_31 hc10 ho10 hl10 ?_
  refine sw_aload_n dX3_part_32 rfl ?_
  refine sw_getf dX3_part_33 lf_X3_9 hc12 hv12 ?_
  refine sw_iload_n dX3_part_36 rfl ?_
  refine sw_aload_n dX3_part_37 rfl ?_
  refine sw_getf dX3_part_38 lf_X3_9 hc15 hv15 ?_
  refine sw_iload_n dX3_part_41 rfl ?_
  refine sw_iald dX3_part_42 hc17 ho17 hi17 ?_
  refine sw_iload_n dX3_part_43 rfl ?_
  refine sw_cS (M := m_X3_part) dX3_part_44 ls_X3_54 hm19 rfl rfl (Nat.le_of_ble_eq_true rfl) (fun _ _ => rfl) rfl ?_
  show SW sc m_X3_part _ _ _ 47 [some (.ref r0), some (.int l1), some (.int l2)] [.int v19, .int l2, .ref a12] g19 P
  refine sw_iast dX3_part_47 hc20 ho20 hl20 ?_
  exact (sw_fg [true, true, true] rfl (k))
theorem b_X3_part_48  (hP : P (.inl none) h) : SW sc m_X3_part d rc rs 48 [none, none, none] [] h P := by
  exact sw_ret (v := none) dX3_part_48 rt_v hP
theorem b_X3_exchange_0 {r0 : Nat} {l1 : Int32} {l2 : Int32} {v3 : Int32} {g3 : ab_H} {fs3 : List Value} (hr3 : (h)[r0]? = some (3, fs3)) (hm3 : MSE m_X3_isVertex d [.ref r0, .int l1] h (some (.int v3)) g3) (kt : v3 = 0 → SW sc m_X3_exchange (d + 1) rc rs 16 [none, none, none, none] [] g3 P) (kf : ¬ (v3 = 0) → SW sc m_X3_exchange (d + 1) rc rs 8 [some (.ref r0), some (.int l1), some (.int l2), none] [] g3 P) : SW sc m_X3_exchange (d + 1) rc rs 0 [some (.ref r0), some (.int l1), some (.int l2), none] [] h P := by
  refine sw_aload_n dX3_exchange_0 rfl ?_
  refine sw_iload_n dX3_exchange_1 rfl ?_
  refine sw_cV (M := m_X3_exchange) dX3_exchange_2 lv_X3_46 hm3 hr3 rfl (by decide) rfl rfl rfl (Nat.le_of_ble_eq_true rfl) (fun _ _ => rfl) rfl ?_
  show SW sc m_X3_exchange _ _ _ 5 [some (.ref r0), some (.int l1), some (.int l2), none] [.int v3] g3 P
  exact sw_if_eq dX3_exchange_5 (by decide) (fun q => (sw_fg [true, true, true, false] rfl (kt q))) (fun q => (kf q))
theorem b_X3_exchange_8 {r0 : Nat} {l1 : Int32} {l2 : Int32} {v3 : Int32} {g3 : ab_H} {fs3 : List Value} (hr3 : (h)[r0]? = some (3, fs3)) (hm3 : MSE m_X3_isVertex d [.ref r0, .int l2] h (some (.int v3)) g3) (kt : ¬ v3 = 0 → SW sc m_X3_exchange (d + 1) rc rs 17 [some (.ref r0), some (.int l1), some (.int l2), none] [] g3 P) (kf : v3 = 0 → SW sc m_X3_exchange (d + 1) rc rs 16 [none, none, none, none] [] g3 P) : SW sc m_X3_exchange (d + 1) rc rs 8 [some (.ref r0), some (.int l1), some (.int l2), none] [] h P := by
  refine sw_aload_n dX3_exchange_8 rfl ?_
  refine sw_iload_n dX3_exchange_9 rfl ?_
  refine sw_cV (M := m_X3_exchange) dX3_exchange_10 lv_X3_46 hm3 hr3 rfl (by decide) rfl rfl rfl (Nat.le_of_ble_eq_true rfl) (fun _ _ => rfl) rfl ?_
  show SW sc m_X3_exchange _ _ _ 13 [some (.ref r0), some (.int l1), some (.int l2), none] [.int v3] g3 P
  exact sw_if_ne dX3_exchange_13 (by decide) (fun q => (kt q)) (fun q => (sw_fg [true, true, true, false] rfl (kf q)))
theorem b_X3_exchange_16  (hP : P (.inl none) h) : SW sc m_X3_exchange d rc rs 16 [none, none, none, none] [] h P := by
  exact sw_ret (v := none) dX3_exchange_16 rt_v hP
theorem b_X3_exchange_17 {r0 : Nat} {l1 : Int32} {l2 : Int32} (k : SW sc m_X3_exchange d rc rs 19 [some (.ref r0), some (.int l1), some (.int l2), some (.int 0)] [] h P) : SW sc m_X3_exchange d rc rs 17 [some (.ref r0), some (.int l1), some (.int l2), none] [] h P := by
  refine sw_iconst (v := 0) dX3_exchange_17 (by decide) ?_
  refine sw_istore_n dX3_exchange_18 (by decide) rfl ?_
  show SW sc m_X3_exchange _ _ _ 19 [some (.ref r0), some (.int l1), some (.int l2), some (.int 0)] [] h P
  exact (k)
theorem b_X3_exchange_19 {r0 : Nat} {l1 : Int32} {l2 : Int32} {l3 : Int32} {fs3 : List Value} {x3 : Int32} (hc3 : (h)[r0]? = some (3, fs3)) (hv3 : fs3[2]? = some (.int x3)) (kt : x3 ≤ l3 → SW sc m_X3_exchange d rc rs 72 [some (.ref r0), some (.int l1), some (.int l2), none] [] h P) (kf : ¬ (x3 ≤ l3) → SW sc m_X3_exchange d rc rs 27 [some (.ref r0), some (.int l1), some (.int l2), some (.int l3)] [] h P) : SW sc m_X3_exchange d rc rs 19 [some (.ref r0), some (.int l1), some (.int l2), some (.int l3)] [] h P := by
  refine sw_iload_n dX3_exchange_19 rfl ?_
  refine sw_aload_n dX3_exchange_20 rfl ?_
  refine sw_getf dX3_exchange_21 lf_X3_18 hc3 hv3 ?_
  exact sw_icmp_ge dX3_exchange_24 (by decide) (fun q => (sw_fg [false, false, false, true] rfl (kt q))) (fun q => (kf q))
theorem b_X3_exchange_27 {r0 : Nat} {l1 : Int32} {l2 : Int32} {l3 : Int32} {fs2 : List Value} {a2 : Nat} {vs4 : List Value} {x4 : Int32} {v6 : Int32} {g6 : ab_H} {fs8 : List Value} {a8 : Nat} {vs10 : List Value} {x10 : Int32} {v12 : Int32} {g12 : ab_H} (hc2 : (h)[r0]? = some (3, fs2)) (hv2 : fs2[0]? = some (.ref a2)) (hc4 : (h)[a2]? = some (100, vs4)) (ho4 : ¬ l3 < 0) (hi4 : vs4[l3.toNatClampNeg]? = some (.int x4)) (hm6 : MSE m_X9_holds d [.int x4, .int l1] h (some (.int v6)) g6) (hc8 : (g6)[r0]? = some (3, fs8)) (hv8 : fs8[0]? = some (.ref a8)) (hc10 : (g6)[a8]? = some (100, vs10)) (ho10 : ¬ l3 < 0) (hi10 : vs10[l3.toNatClampNeg]? = some (.int x10)) (hm12 : MSE m_X9_holds d [.int x10, .int l2] g6 (some (.int v12)) g12) (kt : v6 = v12 → SW sc m_X3_exchange (d + 1) rc rs 66 [some (.ref r0), some (.int l1), some (.int l2), some (.int l3)] [] g12 P) (kf : ¬ (v6 = v12) → SW sc m_X3_exchange (d + 1) rc rs 50 [some (.ref r0), some (.int l1), some (.int l2), some (.int l3)] [] g12 P) : SW sc m_X3_exchange (d + 1) rc rs 27 [some (.ref r0), some (.int l1), some (.int l2), some (.int l3)] [] h P := by
  refine sw_aload_n dX3_exchange_27 rfl ?_
  refine sw_getf dX3_exchange_28 lf_X3_9 hc2 hv2 ?_
  refine sw_iload_n dX3_exchange_31 rfl ?_
  refine sw_iald dX3_exchange_32 hc4 ho4 hi4 ?_
  refine sw_iload_n dX3_exchange_33 rfl ?_
  refine sw_cS (M := m_X3_exchange) dX3_exchange_34 ls_X3_50 hm6 rfl rfl (Nat.le_of_ble_eq_true rfl) (fun _ _ => rfl) rfl ?_
  show SW sc m_X3_exchange _ _ _ 37 [some (.ref r0), some (.int l1), some (.int l2), some (.int l3)] [.int v6] g6 P
  refine sw_aload_n dX3_exchange_37 rfl ?_
  refine sw_getf dX3_exchange_38 lf_X3_9 hc8 hv8 ?_
  refine sw_iload_n dX3_exchange_41 rfl ?_
  refine sw_iald dX3_exchange_42 hc10 ho10 hi10 ?_
  refine sw_iload_n dX3_exchange_43 rfl ?_
  refine sw_cS (M := m_X3_exchange) dX3_exchange_44 ls_X3_50 hm12 rfl rfl (Nat.le_of_ble_eq_true rfl) (fun _ _ => rfl) rfl ?_
  show SW sc m_X3_exchange _ _ _ 47 [some (.ref r0), some (.int l1), some (.int l2), some (.int l3)] [.int v12, .int v6] g12 P
  exact sw_icmp_eq dX3_exchange_47 (by decide) (fun q => (kt q)) (fun q => (kf q))
theorem b_X3_exchange_50 {r0 : Nat} {l1 : Int32} {l2 : Int32} {l3 : Int32} {fs2 : List Value} {a2 : Nat} {vs5 : List Value} {x5 : Int32} {vs14 : List Value} (hc2 : (h)[r0]? = some (3, fs2)) (hv2 : fs2[0]? = some (.ref a2)) (hc5 : (h)[a2]? = some (100, vs5)) (ho5 : ¬ l3 < 0) (hi5 : vs5[l3.toNatClampNeg]? = some (.int x5)) (hc14 : (h)[a2]? = some (100, vs14)) (ho14 : ¬ l3 < 0) (hl14 : l3.toNatClampNeg < vs14.length) (k : SW sc m_X3_exchange d rc rs 66 [some (.ref r0), some (.int l1), some (.int l2), some (.int l3)] [] ((h).set a2 (100, vs14.set l3.toNatClampNeg (.int (x5 ^^^ ((1 <<< (l1 &&& 31)) ||| (1 <<< (l2 &&& 31))))))) P) : SW sc m_X3_exchange d rc rs 50 [some (.ref r0), some (.int l1), some (.int l2), some (.int l3)] [] h P := by
  refine sw_aload_n dX3_exchange_50 rfl ?_
  refine sw_getf dX3_exchange_51 lf_X3_9 hc2 hv2 ?_
  refine sw_iload_n dX3_exchange_54 rfl ?_
  refine sw_dup2 dX3_exchange_55 (fun _ _ => rfl) (fun _ _ => rfl) ?_
  refine sw_iald dX3_exchange_56 hc5 ho5 hi5 ?_
  refine sw_iconst (v := 1) dX3_exchange_57 (by decide) ?_
  refine sw_iload_n dX3_exchange_58 rfl ?_
  refine sw_ishl dX3_exchange_59 ?_
  refine sw_iconst (v := 1) dX3_exchange_60 (by decide) ?_
  refine sw_iload_n dX3_exchange_61 rfl ?_
  refine sw_ishl dX3_exchange_62 ?_
  refine sw_ior dX3_exchange_63 ?_
  refine sw_ixor dX3_exchange_64 ?_
  refine sw_iast dX3_exchange_65 hc14 ho14 hl14 ?_
  exact (k)
theorem b_X3_exchange_66 {r0 : Nat} {l1 : Int32} {l2 : Int32} {l3 : Int32} (k : SW sc m_X3_exchange d rc rs 19 [some (.ref r0), some (.int l1), some (.int l2), some (.int (l3 + 1))] [] h P) : SW sc m_X3_exchange d rc rs 66 [some (.ref r0), some (.int l1), some (.int l2), some (.int l3)] [] h P := by
  refine sw_iinc (v := l3 + 1) dX3_exchange_66 rfl rfl (by decide) rfl ?_
  show SW sc m_X3_exchange _ _ _ 69 [some (.ref r0), some (.int l1), some (.int l2), some (.int (l3 + 1))] [] h P
  exact sw_goto dX3_exchange_69 (by decide) (k)
theorem b_X3_exchange_72 {r0 : Nat} {l1 : Int32} {l2 : Int32} {fs2 : List Value} {a2 : Nat} {vs4 : List Value} {x4 : Int32} {fs7 : List Value} {a7 : Nat} {fs10 : List Value} {a10 : Nat} {vs12 : List Value} {x12 : Int32} {vs13 : List Value} {fs15 : List Value} {a15 : Nat} {vs18 : List Value} (hc2 : (h)[r0]? = some (3, fs2)) (hv2 : fs2[0]? = some (.ref a2)) (hc4 : (h)[a2]? = some (100, vs4)) (ho4 : ¬ l1 < 0) (hi4 : vs4[l1.toNatClampNeg]? = some (.int x4)) (hc7 : (h)[r0]? = some (3, fs7)) (hv7 : fs7[0]? = some (.ref a7)) (hc10 : (h)[r0]? = some (3, fs10)) (hv10 : fs10[0]? = some (.ref a10)) (hc12 : (h)[a10]? = some (100, vs12)) (ho12 : ¬ l2 < 0) (hi12 : vs12[l2.toNatClampNeg]? = some (.int x12)) (hc13 : (h)[a7]? = some (100, vs13)) (ho13 : ¬ l1 < 0) (hl13 : l1.toNatClampNeg < vs13.length) (hc15 : ((h).set a7 (100, vs13.set l1.toNatClampNeg (.int x12)))[r0]? = some (3, fs15)) (hv15 : fs15[0]? = some (.ref a15)) (hc18 : ((h).set a7 (100, vs13.set l1.toNatClampNeg (.int x12)))[a15]? = some (100, vs18)) (ho18 : ¬ l2 < 0) (hl18 : l2.toNatClampNeg < vs18.length) (hP : P (.inl none) (((h).set a7 (100, vs13.set l1.toNatClampNeg (.int x12))).set a15 (100, vs18.set l2.toNatClampNeg (.int x4)))) : SW sc m_X3_exchange d rc rs 72 [some (.ref r0), some (.int l1), some (.int l2), none] [] h P := by
  refine sw_aload_n dX3_exchange_72 rfl ?_
  refine sw_getf dX3_exchange_73 lf_X3_9 hc2 hv2 ?_
  refine sw_iload_n dX3_exchange_76 rfl ?_
  refine sw_iald dX3_exchange_77 hc4 ho4 hi4 ?_
  refine sw_istore_n dX3_exchange_78 (by decide) rfl ?_
  show SW sc m_X3_exchange _ _ _ 79 [some (.ref r0), some (.int l1), some (.int l2), some (.int x4)] [] h P
  refine sw_aload_n dX3_exchange_79 rfl ?_
  refine sw_getf dX3_exchange_80 lf_X3_9 hc7 hv7 ?_
  refine sw_iload_n dX3_exchange_83 rfl ?_
  refine sw_aload_n dX3_exchange_84 rfl ?_
  refine sw_getf dX3_exchange_85 lf_X3_9 hc10 hv10 ?_
  refine sw_iload_n dX3_exchange_88 rfl ?_
  refine sw_iald dX3_exchange_89 hc12 ho12 hi12 ?_
  refine sw_iast dX3_exchange_90 hc13 ho13 hl13 ?_
  refine sw_aload_n dX3_exchange_91 rfl ?_
  refine sw_getf dX3_exchange_92 lf_X3_9 hc15 hv15 ?_
  refine sw_iload_n dX3_exchange_95 rfl ?_
  refine sw_iload_n dX3_exchange_96 rfl ?_
  refine sw_iast dX3_exchange_97 hc18 ho18 hl18 ?_
  exact sw_ret (v := none) dX3_exchange_98 rt_v hP
theorem b_X3_weightOf_0 {r0 : Nat} {l1 : Int32} {v3 : Int32} {g3 : ab_H} {fs3 : List Value} (hr3 : (h)[r0]? = some (3, fs3)) (hm3 : MSE m_X3_isVertex d [.ref r0, .int l1] h (some (.int v3)) g3) (kt : v3 = 0 → SW sc m_X3_weightOf (d + 1) rc rs 17 [none, none] [] g3 P) (kf : ¬ (v3 = 0) → SW sc m_X3_weightOf (d + 1) rc rs 8 [some (.ref r0), some (.int l1)] [] g3 P) : SW sc m_X3_weightOf (d + 1) rc rs 0 [some (.ref r0), some (.int l1)] [] h P := by
  refine sw_aload_n dX3_weightOf_0 rfl ?_
  refine sw_iload_n dX3_weightOf_1 rfl ?_
  refine sw_cV (M := m_X3_weightOf) dX3_weightOf_2 lv_X3_46 hm3 hr3 rfl (by decide) rfl rfl rfl (Nat.le_of_ble_eq_true rfl) (fun _ _ => rfl) rfl ?_
  show SW sc m_X3_weightOf _ _ _ 5 [some (.ref r0), some (.int l1)] [.int v3] g3 P
  exact sw_if_eq dX3_weightOf_5 (by decide) (fun q => (sw_fg [true, true] rfl (kt q))) (fun q => (kf q))
theorem b_X3_weightOf_8 {r0 : Nat} {l1 : Int32} {fs2 : List Value} {a2 : Nat} {vs4 : List Value} {x4 : Int32} (hc2 : (h)[r0]? = some (3, fs2)) (hv2 : fs2[1]? = some (.ref a2)) (hc4 : (h)[a2]? = some (100, vs4)) (ho4 : ¬ l1 < 0) (hi4 : vs4[l1.toNatClampNeg]? = some (.int x4)) (k : SW sc m_X3_weightOf d rc rs 18 [none, none] [.int x4] h P) : SW sc m_X3_weightOf d rc rs 8 [some (.ref r0), some (.int l1)] [] h P := by
  refine sw_aload_n dX3_weightOf_8 rfl ?_
  refine sw_getf dX3_weightOf_9 lf_X3_15 hc2 hv2 ?_
  refine sw_iload_n dX3_weightOf_12 rfl ?_
  refine sw_iald dX3_weightOf_13 hc4 ho4 hi4 ?_
  exact sw_goto dX3_weightOf_14 (by decide) (sw_fg [true, true] rfl (k))
theorem b_X3_weightOf_17  (k : SW sc m_X3_weightOf d rc rs 18 [none, none] [.int 0] h P) : SW sc m_X3_weightOf d rc rs 17 [none, none] [] h P := by
  refine sw_iconst (v := 0) dX3_weightOf_17 (by decide) ?_
  exact (k)
theorem b_X3_weightOf_18 {s0 : Int32} (hP : P (.inl (some (.int s0))) h) : SW sc m_X3_weightOf d rc rs 18 [none, none] [.int s0] h P := by
  exact sw_ret (v := (some (.int s0))) dX3_weightOf_18 rt_i hP
theorem b_X3_weigh_0 {r0 : Nat} {l1 : Int32} {l2 : Int32} {v3 : Int32} {g3 : ab_H} {fs3 : List Value} (hr3 : (h)[r0]? = some (3, fs3)) (hm3 : MSE m_X3_isVertex d [.ref r0, .int l1] h (some (.int v3)) g3) (kt : v3 = 0 → SW sc m_X3_weigh (d + 1) rc rs 15 [none, none, none] [] g3 P) (kf : ¬ (v3 = 0) → SW sc m_X3_weigh (d + 1) rc rs 8 [some (.ref r0), some (.int l1), some (.int l2)] [] g3 P) : SW sc m_X3_weigh (d + 1) rc rs 0 [some (.ref r0), some (.int l1), some (.int l2)] [] h P := by
  refine sw_aload_n dX3_weigh_0 rfl ?_
  refine sw_iload_n dX3_weigh_1 rfl ?_
  refine sw_cV (M := m_X3_weigh) dX3_weigh_2 lv_X3_46 hm3 hr3 rfl (by decide) rfl rfl rfl (Nat.le_of_ble_eq_true rfl) (fun _ _ => rfl) rfl ?_
  show SW sc m_X3_weigh _ _ _ 5 [some (.ref r0), some (.int l1), some (.int l2)] [.int v3] g3 P
  exact sw_if_eq dX3_weigh_5 (by decide) (fun q => (sw_fg [true, true, true] rfl (kt q))) (fun q => (kf q))
theorem b_X3_weigh_8 {r0 : Nat} {l1 : Int32} {l2 : Int32} {fs2 : List Value} {a2 : Nat} {vs5 : List Value} (hc2 : (h)[r0]? = some (3, fs2)) (hv2 : fs2[1]? = some (.ref a2)) (hc5 : (h)[a2]? = some (100, vs5)) (ho5 : ¬ l1 < 0) (hl5 : l1.toNatClampNeg < vs5.length) (k : SW sc m_X3_weigh d rc rs 15 [none, none, none] [] ((h).set a2 (100, vs5.set l1.toNatClampNeg (.int l2))) P) : SW sc m_X3_weigh d rc rs 8 [some (.ref r0), some (.int l1), some (.int l2)] [] h P := by
  refine sw_aload_n dX3_weigh_8 rfl ?_
  refine sw_getf dX3_weigh_9 lf_X3_15 hc2 hv2 ?_
  refine sw_iload_n dX3_weigh_12 rfl ?_
  refine sw_iload_n dX3_weigh_13 rfl ?_
  refine sw_iast dX3_weigh_14 hc5 ho5 hl5 ?_
  exact (sw_fg [true, true, true] rfl (k))
theorem b_X3_weigh_15  (hP : P (.inl none) h) : SW sc m_X3_weigh d rc rs 15 [none, none, none] [] h P := by
  exact sw_ret (v := none) dX3_weigh_15 rt_v hP
theorem b_X3_weightOfSet_0 {r0 : Nat} {l1 : Int32} (k : SW sc m_X3_weightOfSet d rc rs 4 [some (.ref r0), some (.int l1), some (.int 0), some (.int 0)] [] h P) : SW sc m_X3_weightOfSet d rc rs 0 [some (.ref r0), some (.int l1), none, none] [] h P := by
  refine sw_iconst (v := 0) dX3_weightOfSet_0 (by decide) ?_
  refine sw_istore_n dX3_weightOfSet_1 (by decide) rfl ?_
  show SW sc m_X3_weightOfSet _ _ _ 2 [some (.ref r0), some (.int l1), some (.int 0), none] [] h P
  refine sw_iconst (v := 0) dX3_weightOfSet_2 (by decide) ?_
  refine sw_istore_n dX3_weightOfSet_3 (by decide) rfl ?_
  show SW sc m_X3_weightOfSet _ _ _ 4 [some (.ref r0), some (.int l1), some (.int 0), some (.int 0)] [] h P
  exact (k)
theorem b_X3_weightOfSet_4 {r0 : Nat} {l1 : Int32} {l2 : Int32} {l3 : Int32} {fs3 : List Value} {x3 : Int32} (hc3 : (h)[r0]? = some (3, fs3)) (hv3 : fs3[2]? = some (.int x3)) (kt : x3 ≤ l3 → SW sc m_X3_weightOfSet d rc rs 35 [none, none, some (.int l2), none] [] h P) (kf : ¬ (x3 ≤ l3) → SW sc m_X3_weightOfSet d rc rs 12 [some (.ref r0), some (.int l1), some (.int l2), some (.int l3)] [] h P) : SW sc m_X3_weightOfSet d rc rs 4 [some (.ref r0), some (.int l1), some (.int l2), some (.int l3)] [] h P := by
  refine sw_iload_n dX3_weightOfSet_4 rfl ?_
  refine sw_aload_n dX3_weightOfSet_5 rfl ?_
  refine sw_getf dX3_weightOfSet_6 lf_X3_18 hc3 hv3 ?_
  exact sw_icmp_ge dX3_weightOfSet_9 (by decide) (fun q => (sw_fg [true, true, false, true] rfl (kt q))) (fun q => (kf q))
theorem b_X3_weightOfSet_12 {r0 : Nat} {l1 : Int32} {l2 : Int32} {l3 : Int32} {v3 : Int32} {g3 : ab_H} (hm3 : MSE m_X9_holds d [.int l1, .int l3] h (some (.int v3)) g3) (kt : v3 = 0 → SW sc m_X3_weightOfSet (d + 1) rc rs 29 [some (.ref r0), some (.int l1), some (.int l2), some (.int l3)] [] g3 P) (kf : ¬ (v3 = 0) → SW sc m_X3_weightOfSet (d + 1) rc rs 20 [some (.ref r0), some (.int l1), some (.int l2), some (.int l3)] [] g3 P) : SW sc m_X3_weightOfSet (d + 1) rc rs 12 [some (.ref r0), some (.int l1), some (.int l2), some (.int l3)] [] h P := by
  refine sw_iload_n dX3_weightOfSet_12 rfl ?_
  refine sw_iload_n dX3_weightOfSet_13 rfl ?_
  refine sw_cS (M := m_X3_weightOfSet) dX3_weightOfSet_14 ls_X3_50 hm3 rfl rfl (Nat.le_of_ble_eq_true rfl) (fun _ _ => rfl) rfl ?_
  show SW sc m_X3_weightOfSet _ _ _ 17 [some (.ref r0), some (.int l1), some (.int l2), some (.int l3)] [.int v3] g3 P
  exact sw_if_eq dX3_weightOfSet_17 (by decide) (fun q => (kt q)) (fun q => (kf q))
theorem b_X3_weightOfSet_20 {r0 : Nat} {l1 : Int32} {l2 : Int32} {l3 : Int32} {fs3 : List Value} {a3 : Nat} {vs5 : List Value} {x5 : Int32} (hc3 : (h)[r0]? = some (3, fs3)) (hv3 : fs3[1]? = some (.ref a3)) (hc5 : (h)[a3]? = some (100, vs5)) (ho5 : ¬ l3 < 0) (hi5 : vs5[l3.toNatClampNeg]? = some (.int x5)) (k : SW sc m_X3_weightOfSet d rc rs 29 [some (.ref r0), some (.int l1), some (.int (l2 + x5)), some (.int l3)] [] h P) : SW sc m_X3_weightOfSet d rc rs 20 [some (.ref r0), some (.int l1), some (.int l2), some (.int l3)] [] h P := by
  refine sw_iload_n dX3_weightOfSet_20 rfl ?_
  refine sw_aload_n dX3_weightOfSet_21 rfl ?_
  refine sw_getf dX3_weightOfSet_22 lf_X3_15 hc3 hv3 ?_
  refine sw_iload_n dX3_weightOfSet_25 rfl ?_
  refine sw_iald dX3_weightOfSet_26 hc5 ho5 hi5 ?_
  refine sw_iadd dX3_weightOfSet_27 ?_
  refine sw_istore_n dX3_weightOfSet_28 (by decide) rfl ?_
  show SW sc m_X3_weightOfSet _ _ _ 29 [some (.ref r0), some (.int l1), some (.int (l2 + x5)), some (.int l3)] [] h P
  exact (k)
theorem b_X3_weightOfSet_29 {r0 : Nat} {l1 : Int32} {l2 : Int32} {l3 : Int32} (k : SW sc m_X3_weightOfSet d rc rs 4 [some (.ref r0), some (.int l1), some (.int l2), some (.int (l3 + 1))] [] h P) : SW sc m_X3_weightOfSet d rc rs 29 [some (.ref r0), some (.int l1), some (.int l2), some (.int l3)] [] h P := by
  refine sw_iinc (v := l3 + 1) dX3_weightOfSet_29 rfl rfl (by decide) rfl ?_
  show SW sc m_X3_weightOfSet _ _ _ 32 [some (.ref r0), some (.int l1), some (.int l2), some (.int (l3 + 1))] [] h P
  exact sw_goto dX3_weightOfSet_32 (by decide) (k)
theorem b_X3_weightOfSet_35 {l2 : Int32} (hP : P (.inl (some (.int l2))) h) : SW sc m_X3_weightOfSet d rc rs 35 [none, none, some (.int l2), none] [] h P := by
  refine sw_iload_n dX3_weightOfSet_35 rfl ?_
  exact sw_ret (v := (some (.int l2))) dX3_weightOfSet_36 rt_i hP
theorem b_X3_edges_0 {r0 : Nat} (k : SW sc m_X3_edges d rc rs 4 [some (.ref r0), some (.int 0), some (.int 0)] [] h P) : SW sc m_X3_edges d rc rs 0 [some (.ref r0), none, none] [] h P := by
  refine sw_iconst (v := 0) dX3_edges_0 (by decide) ?_
  refine sw_istore_n dX3_edges_1 (by decide) rfl ?_
  show SW sc m_X3_edges _ _ _ 2 [some (.ref r0), some (.int 0), none] [] h P
  refine sw_iconst (v := 0) dX3_edges_2 (by decide) ?_
  refine sw_istore_n dX3_edges_3 (by decide) rfl ?_
  show SW sc m_X3_edges _ _ _ 4 [some (.ref r0), some (.int 0), some (.int 0)] [] h P
  exact (k)
theorem b_X3_edges_4 {r0 : Nat} {l1 : Int32} {l2 : Int32} {fs3 : List Value} {x3 : Int32} (hc3 : (h)[r0]? = some (3, fs3)) (hv3 : fs3[2]? = some (.int x3)) (kt : x3 ≤ l2 → SW sc m_X3_edges d rc rs 30 [none, some (.int l1), none] [] h P) (kf : ¬ (x3 ≤ l2) → SW sc m_X3_edges d rc rs 12 [some (.ref r0), some (.int l1), some (.int l2)] [] h P) : SW sc m_X3_edges d rc rs 4 [some (.ref r0), some (.int l1), some (.int l2)] [] h P := by
  refine sw_iload_n dX3_edges_4 rfl ?_
  refine sw_aload_n dX3_edges_5 rfl ?_
  refine sw_getf dX3_edges_6 lf_X3_18 hc3 hv3 ?_
  exact sw_icmp_ge dX3_edges_9 (by decide) (fun q => (sw_fg [true, false, true] rfl (kt q))) (fun q => (kf q))
theorem b_X3_edges_12 {r0 : Nat} {l1 : Int32} {l2 : Int32} {fs3 : List Value} {a3 : Nat} {vs5 : List Value} {x5 : Int32} {v6 : Int32} {g6 : ab_H} (hc3 : (h)[r0]? = some (3, fs3)) (hv3 : fs3[0]? = some (.ref a3)) (hc5 : (h)[a3]? = some (100, vs5)) (ho5 : ¬ l2 < 0) (hi5 : vs5[l2.toNatClampNeg]? = some (.int x5)) (hm6 : MSE m_J6_bitCount_0f7a4 d [.int x5] h (some (.int v6)) g6) (k : SW sc m_X3_edges (d + 1) rc rs 4 [some (.ref r0), some (.int (l1 + v6)), some (.int (l2 + 1))] [] g6 P) : SW sc m_X3_edges (d + 1) rc rs 12 [some (.ref r0), some (.int l1), some (.int l2)] [] h P := by
  refine sw_iload_n dX3_edges_12 rfl ?_
  refine sw_aload_n dX3_edges_13 rfl ?_
  refine sw_getf dX3_edges_14 lf_X3_9 hc3 hv3 ?_
  refine sw_iload_n dX3_edges_17 rfl ?_
  refine sw_iald dX3_edges_18 hc5 ho5 hi5 ?_
  refine sw_cS (M := m_X3_edges) dX3_edges_19 ls_X3_37 hm6 rfl rfl (Nat.le_of_ble_eq_true rfl) (fun _ _ => rfl) rfl ?_
  show SW sc m_X3_edges _ _ _ 22 [some (.ref r0), some (.int l1), some (.int l2)] [.int v6, .int l1] g6 P
  refine sw_iadd dX3_edges_22 ?_
  refine sw_istore_n dX3_edges_23 (by decide) rfl ?_
  show SW sc m_X3_edges _ _ _ 24 [some (.ref r0), some (.int (l1 + v6)), some (.int l2)] [] g6 P
  refine sw_iinc (v := l2 + 1) dX3_edges_24 rfl rfl (by decide) rfl ?_
  show SW sc m_X3_edges _ _ _ 27 [some (.ref r0), some (.int (l1 + v6)), some (.int (l2 + 1))] [] g6 P
  exact sw_goto dX3_edges_27 (by decide) (k)
theorem b_X3_edges_30 {l1 : Int32} (hz3 : ¬ (2 : Int32) = 0) (hP : P (.inl (some (.int (l1 / 2)))) h) : SW sc m_X3_edges d rc rs 30 [none, some (.int l1), none] [] h P := by
  refine sw_iload_n dX3_edges_30 rfl ?_
  refine sw_iconst (v := 2) dX3_edges_31 (by decide) ?_
  refine sw_idiv dX3_edges_32 hz3 ?_
  exact sw_ret (v := (some (.int (l1 / 2)))) dX3_edges_33 rt_i hP
theorem b_X3_setOfDegree_0 {r0 : Nat} {l1 : Int32} {l2 : Int32} (k : SW sc m_X3_setOfDegree d rc rs 5 [some (.ref r0), some (.int l1), some (.int l2), some (.int 0), some (.int 0)] [] h P) : SW sc m_X3_setOfDegree d rc rs 0 [some (.ref r0), some (.int l1), some (.int l2), none, none] [] h P := by
  refine sw_iconst (v := 0) dX3_setOfDegree_0 (by decide) ?_
  refine sw_istore_n dX3_setOfDegree_1 (by decide) rfl ?_
  show SW sc m_X3_setOfDegree _ _ _ 2 [some (.ref r0), some (.int l1), some (.int l2), some (.int 0), none] [] h P
  refine sw_iconst (v := 0) dX3_setOfDegree_2 (by decide) ?_
  refine sw_istore dX3_setOfDegree_3 (by decide) rfl ?_
  show SW sc m_X3_setOfDegree _ _ _ 5 [some (.ref r0), some (.int l1), some (.int l2), some (.int 0), some (.int 0)] [] h P
  exact (k)
theorem b_X3_setOfDegree_5 {r0 : Nat} {l1 : Int32} {l2 : Int32} {l3 : Int32} {l4 : Int32} {fs3 : List Value} {x3 : Int32} (hc3 : (h)[r0]? = some (3, fs3)) (hv3 : fs3[2]? = some (.int x3)) (kt : x3 ≤ l4 → SW sc m_X3_setOfDegree d rc rs 50 [none, none, none, some (.int l3), none] [] h P) (kf : ¬ (x3 ≤ l4) → SW sc m_X3_setOfDegree d rc rs 14 [some (.ref r0), some (.int l1), some (.int l2), some (.int l3), some (.int l4)] [] h P) : SW sc m_X3_setOfDegree d rc rs 5 [some (.ref r0), some (.int l1), some (.int l2), some (.int l3), some (.int l4)] [] h P := by
  refine sw_iload dX3_setOfDegree_5 rfl ?_
  refine sw_aload_n dX3_setOfDegree_7 rfl ?_
  refine sw_getf dX3_setOfDegree_8 lf_X3_18 hc3 hv3 ?_
  exact sw_icmp_ge dX3_setOfDegree_11 (by decide) (fun q => (sw_fg [true, true, true, false, true] rfl (kt q))) (fun q => (kf q))
theorem b_X3_setOfDegree_14 {r0 : Nat} {l1 : Int32} {l2 : Int32} {l3 : Int32} {l4 : Int32} {v3 : Int32} {g3 : ab_H} (hm3 : MSE m_X9_holds d [.int l1, .int l4] h (some (.int v3)) g3) (kt : v3 = 0 → SW sc m_X3_setOfDegree (d + 1) rc rs 44 [some (.ref r0), some (.int l1), some (.int l2), some (.int l3), some (.int l4)] [] g3 P) (kf : ¬ (v3 = 0) → SW sc m_X3_setOfDegree (d + 1) rc rs 23 [some (.ref r0), some (.int l1), some (.int l2), some (.int l3), some (.int l4)] [] g3 P) : SW sc m_X3_setOfDegree (d + 1) rc rs 14 [some (.ref r0), some (.int l1), some (.int l2), some (.int l3), some (.int l4)] [] h P := by
  refine sw_iload_n dX3_setOfDegree_14 rfl ?_
  refine sw_iload dX3_setOfDegree_15 rfl ?_
  refine sw_cS (M := m_X3_setOfDegree) dX3_setOfDegree_17 ls_X3_50 hm3 rfl rfl (Nat.le_of_ble_eq_true rfl) (fun _ _ => rfl) rfl ?_
  show SW sc m_X3_setOfDegree _ _ _ 20 [some (.ref r0), some (.int l1), some (.int l2), some (.int l3), some (.int l4)] [.int v3] g3 P
  exact sw_if_eq dX3_setOfDegree_20 (by decide) (fun q => (kt q)) (fun q => (kf q))
theorem b_X3_setOfDegree_23 {r0 : Nat} {l1 : Int32} {l2 : Int32} {l3 : Int32} {l4 : Int32} {fs2 : List Value} {a2 : Nat} {vs4 : List Value} {x4 : Int32} {v5 : Int32} {g5 : ab_H} (hc2 : (h)[r0]? = some (3, fs2)) (hv2 : fs2[0]? = some (.ref a2)) (hc4 : (h)[a2]? = some (100, vs4)) (ho4 : ¬ l4 < 0) (hi4 : vs4[l4.toNatClampNeg]? = some (.int x4)) (hm5 : MSE m_J6_bitCount_0f7a4 d [.int x4] h (some (.int v5)) g5) (kt : ¬ v5 = l2 → SW sc m_X3_setOfDegree (d + 1) rc rs 44 [some (.ref r0), some (.int l1), some (.int l2), some (.int l3), some (.int l4)] [] g5 P) (kf : v5 = l2 → SW sc m_X3_setOfDegree (d + 1) rc rs 37 [some (.ref r0), some (.int l1), some (.int l2), some (.int l3), some (.int l4)] [] g5 P) : SW sc m_X3_setOfDegree (d + 1) rc rs 23 [some (.ref r0), some (.int l1), some (.int l2), some (.int l3), some (.int l4)] [] h P := by
  refine sw_aload_n dX3_setOfDegree_23 rfl ?_
  refine sw_getf dX3_setOfDegree_24 lf_X3_9 hc2 hv2 ?_
  refine sw_iload dX3_setOfDegree_27 rfl ?_
  refine sw_iald dX3_setOfDegree_29 hc4 ho4 hi4 ?_
  refine sw_cS (M := m_X3_setOfDegree) dX3_setOfDegree_30 ls_X3_37 hm5 rfl rfl (Nat.le_of_ble_eq_true rfl) (fun _ _ => rfl) rfl ?_
  show SW sc m_X3_setOfDegree _ _ _ 33 [some (.ref r0), some (.int l1), some (.int l2), some (.int l3), some (.int l4)] [.int v5] g5 P
  refine sw_iload_n dX3_setOfDegree_33 rfl ?_
  exact sw_icmp_ne dX3_setOfDegree_34 (by decide) (fun q => (kt q)) (fun q => (kf q))
theorem b_X3_setOfDegree_37 {r0 : Nat} {l1 : Int32} {l2 : Int32} {l3 : Int32} {l4 : Int32} (k : SW sc m_X3_setOfDegree d rc rs 44 [some (.ref r0), some (.int l1), some (.int l2), some (.int (l3 ||| (1 <<< (l4 &&& 31)))), some (.int l4)] [] h P) : SW sc m_X3_setOfDegree d rc rs 37 [some (.ref r0), some (.int l1), some (.int l2), some (.int l3), some (.int l4)] [] h P := by
  refine sw_iload_n dX3_setOfDegree_37 rfl ?_
  refine sw_iconst (v := 1) dX3_setOfDegree_38 (by decide) ?_
  refine sw_iload dX3_setOfDegree_39 rfl ?_
  refine sw_ishl dX3_setOfDegree_41 ?_
  refine sw_ior dX3_setOfDegree_42 ?_
  refine sw_istore_n dX3_setOfDegree_43 (by decide) rfl ?_
  show SW sc m_X3_setOfDegree _ _ _ 44 [some (.ref r0), some (.int l1), some (.int l2), some (.int (l3 ||| (1 <<< (l4 &&& 31)))), some (.int l4)] [] h P
  exact (k)
theorem b_X3_setOfDegree_44 {r0 : Nat} {l1 : Int32} {l2 : Int32} {l3 : Int32} {l4 : Int32} (k : SW sc m_X3_setOfDegree d rc rs 5 [some (.ref r0), some (.int l1), some (.int l2), some (.int l3), some (.int (l4 + 1))] [] h P) : SW sc m_X3_setOfDegree d rc rs 44 [some (.ref r0), some (.int l1), some (.int l2), some (.int l3), some (.int l4)] [] h P := by
  refine sw_iinc (v := l4 + 1) dX3_setOfDegree_44 rfl rfl (by decide) rfl ?_
  show SW sc m_X3_setOfDegree _ _ _ 47 [some (.ref r0), some (.int l1), some (.int l2), some (.int l3), some (.int (l4 + 1))] [] h P
  exact sw_goto dX3_setOfDegree_47 (by decide) (k)
theorem b_X3_setOfDegree_50 {l3 : Int32} (hP : P (.inl (some (.int l3))) h) : SW sc m_X3_setOfDegree d rc rs 50 [none, none, none, some (.int l3), none] [] h P := by
  refine sw_iload_n dX3_setOfDegree_50 rfl ?_
  exact sw_ret (v := (some (.int l3))) dX3_setOfDegree_51 rt_i hP
theorem b_X3_countOfDegree_0 {r0 : Nat} {l1 : Int32} {l2 : Int32} {v4 : Int32} {g4 : ab_H} {fs4 : List Value} {v5 : Int32} {g5 : ab_H} (hr4 : (h)[r0]? = some (3, fs4)) (hm4 : MSE m_X3_setOfDegree d [.ref r0, .int l1, .int l2] h (some (.int v4)) g4) (hm5 : MSE m_J6_bitCount_0f7a4 d [.int v4] g4 (some (.int v5)) g5) (hP : P (.inl (some (.int v5))) g5) : SW sc m_X3_countOfDegree (d + 1) rc rs 0 [some (.ref r0), some (.int l1), some (.int l2)] [] h P := by
  refine sw_aload_n dX3_countOfDegree_0 rfl ?_
  refine sw_iload_n dX3_countOfDegree_1 rfl ?_
  refine sw_iload_n dX3_countOfDegree_2 rfl ?_
  refine sw_cV (M := m_X3_countOfDegree) dX3_countOfDegree_3 lv_X3_58 hm4 hr4 rfl (by decide) rfl rfl rfl (Nat.le_of_ble_eq_true rfl) (fun _ _ => rfl) rfl ?_
  show SW sc m_X3_countOfDegree _ _ _ 6 [some (.ref r0), some (.int l1), some (.int l2)] [.int v4] g4 P
  refine sw_cS (M := m_X3_countOfDegree) dX3_countOfDegree_6 ls_X3_37 hm5 rfl rfl (Nat.le_of_ble_eq_true rfl) (fun _ _ => rfl) rfl ?_
  show SW sc m_X3_countOfDegree _ _ _ 9 [some (.ref r0), some (.int l1), some (.int l2)] [.int v5] g5 P
  exact sw_ret (v := (some (.int v5))) dX3_countOfDegree_9 rt_i hP
theorem b_X3_dropLeaves_0 {r0 : Nat} {v3 : Int32} {g3 : ab_H} {fs3 : List Value} {v5 : Int32} {g5 : ab_H} {fs5 : List Value} (hr3 : (h)[r0]? = some (3, fs3)) (hm3 : MSE m_X3_all d [.ref r0] h (some (.int v3)) g3) (hr5 : (g3)[r0]? = some (3, fs5)) (hm5 : MSE m_X3_setOfDegree d [.ref r0, .int v3, .int 1] g3 (some (.int v5)) g5) (k : SW sc m_X3_dropLeaves (d + 1) rc rs 12 [some (.ref r0), some (.int v5), some (.int 0)] [] g5 P) : SW sc m_X3_dropLeaves (d + 1) rc rs 0 [some (.ref r0), none, none] [] h P := by
  refine sw_aload_n dX3_dropLeaves_0 rfl ?_
  refine sw_aload_n dX3_dropLeaves_1 rfl ?_
  refine sw_cV (M := m_X3_dropLeaves) dX3_dropLeaves_2 lv_X3_61 hm3 hr3 rfl (by decide) rfl rfl rfl (Nat.le_of_ble_eq_true rfl) (fun _ _ => rfl) rfl ?_
  show SW sc m_X3_dropLeaves _ _ _ 5 [some (.ref r0), none, none] [.int v3, .ref r0] g3 P
  refine sw_iconst (v := 1) dX3_dropLeaves_5 (by decide) ?_
  refine sw_cV (M := m_X3_dropLeaves) dX3_dropLeaves_6 lv_X3_58 hm5 hr5 rfl (by decide) rfl rfl rfl (Nat.le_of_ble_eq_true rfl) (fun _ _ => rfl) rfl ?_
  show SW sc m_X3_dropLeaves _ _ _ 9 [some (.ref r0), none, none] [.int v5] g5 P
  refine sw_istore_n dX3_dropLeaves_9 (by decide) rfl ?_
  show SW sc m_X3_dropLeaves _ _ _ 10 [some (.ref r0), some (.int v5), none] [] g5 P
  refine sw_iconst (v := 0) dX3_dropLeaves_10 (by decide) ?_
  refine sw_istore_n dX3_dropLeaves_11 (by decide) rfl ?_
  show SW sc m_X3_dropLeaves _ _ _ 12 [some (.ref r0), some (.int v5), some (.int 0)] [] g5 P
  exact (k)
theorem b_X3_dropLeaves_12 {r0 : Nat} {l1 : Int32} {l2 : Int32} {fs3 : List Value} {x3 : Int32} (hc3 : (h)[r0]? = some (3, fs3)) (hv3 : fs3[2]? = some (.int x3)) (kt : x3 ≤ l2 → SW sc m_X3_dropLeaves d rc rs 48 [none, none, none] [] h P) (kf : ¬ (x3 ≤ l2) → SW sc m_X3_dropLeaves d rc rs 20 [some (.ref r0), some (.int l1), some (.int l2)] [] h P) : SW sc m_X3_dropLeaves d rc rs 12 [some (.ref r0), some (.int l1), some (.int l2)] [] h P := by
  refine sw_iload_n dX3_dropLeaves_12 rfl ?_
  refine sw_aload_n dX3_dropLeaves_13 rfl ?_
  refine sw_getf dX3_dropLeaves_14 lf_X3_18 hc3 hv3 ?_
  exact sw_icmp_ge dX3_dropLeaves_17 (by decide) (fun q => (sw_fg [true, true, true] rfl (kt q))) (fun q => (kf q))
theorem b_X3_dropLeaves_20 {r0 : Nat} {l1 : Int32} {l2 : Int32} {v3 : Int32} {g3 : ab_H} (hm3 : MSE m_X9_holds d [.int l1, .int l2] h (some (.int v3)) g3) (kt : v3 = 0 → SW sc m_X3_dropLeaves (d + 1) rc rs 42 [some (.ref r0), some (.int l1), some (.int l2)] [] g3 P) (kf : ¬ (v3 = 0) → SW sc m_X3_dropLeaves (d + 1) rc rs 28 [some (.ref r0), some (.int l1), some (.int l2)] [] g3 P) : SW sc m_X3_dropLeaves (d + 1) rc rs 20 [some (.ref r0), some (.int l1), some (.int l2)] [] h P := by
  refine sw_iload_n dX3_dropLeaves_20 rfl ?_
  refine sw_iload_n dX3_dropLeaves_21 rfl ?_
  refine sw_cS (M := m_X3_dropLeaves) dX3_dropLeaves_22 ls_X3_50 hm3 rfl rfl (Nat.le_of_ble_eq_true rfl) (fun _ _ => rfl) rfl ?_
  show SW sc m_X3_dropLeaves _ _ _ 25 [some (.ref r0), some (.int l1), some (.int l2)] [.int v3] g3 P
  exact sw_if_eq dX3_dropLeaves_25 (by decide) (fun q => (kt q)) (fun q => (kf q))
theorem b_X3_dropLeaves_28 {r0 : Nat} {l1 : Int32} {l2 : Int32} {fs4 : List Value} {a4 : Nat} {vs6 : List Value} {x6 : Int32} {v7 : Int32} {g7 : ab_H} {g8 : ab_H} {fs8 : List Value} (hc4 : (h)[r0]? = some (3, fs4)) (hv4 : fs4[0]? = some (.ref a4)) (hc6 : (h)[a4]? = some (100, vs6)) (ho6 : ¬ l2 < 0) (hi6 : vs6[l2.toNatClampNeg]? = some (.int x6)) (hm7 : MSE m_X9_lowest d [.int x6] h (some (.int v7)) g7) (hr8 : (g7)[r0]? = some (3, fs8)) (hm8 : MSE m_X3_part d [.ref r0, .int l2, .int v7] g7 none g8) (k : SW sc m_X3_dropLeaves (d + 1) rc rs 42 [some (.ref r0), some (.int l1), some (.int l2)] [] g8 P) : SW sc m_X3_dropLeaves (d + 1) rc rs 28 [some (.ref r0), some (.int l1), some (.int l2)] [] h P := by
  refine sw_aload_n dX3_dropLeaves_28 rfl ?_
  refine sw_iload_n dX3_dropLeaves_29 rfl ?_
  refine sw_aload_n dX3_dropLeaves_30 rfl ?_
  refine sw_getf dX3_dropLeaves_31 lf_X3_9 hc4 hv4 ?_
  refine sw_iload_n dX3_dropLeaves_34 rfl ?_
  refine sw_iald dX3_dropLeaves_35 hc6 ho6 hi6 ?_
  refine sw_cS (M := m_X3_dropLeaves) dX3_dropLeaves_36 ls_X3_65 hm7 rfl rfl (Nat.le_of_ble_eq_true rfl) (fun _ _ => rfl) rfl ?_
  show SW sc m_X3_dropLeaves _ _ _ 39 [some (.ref r0), some (.int l1), some (.int l2)] [.int v7, .int l2, .ref r0] g7 P
  refine sw_cV (M := m_X3_dropLeaves) dX3_dropLeaves_39 lv_X3_68 hm8 hr8 rfl (by decide) rfl rfl rfl (Nat.le_of_ble_eq_true rfl) (fun _ _ => rfl) rfl ?_
  show SW sc m_X3_dropLeaves _ _ _ 42 [some (.ref r0), some (.int l1), some (.int l2)] [] g8 P
  exact (k)
theorem b_X3_dropLeaves_42 {r0 : Nat} {l1 : Int32} {l2 : Int32} (k : SW sc m_X3_dropLeaves d rc rs 12 [some (.ref r0), some (.int l1), some (.int (l2 + 1))] [] h P) : SW sc m_X3_dropLeaves d rc rs 42 [some (.ref r0), some (.int l1), some (.int l2)] [] h P := by
  refine sw_iinc (v := l2 + 1) dX3_dropLeaves_42 rfl rfl (by decide) rfl ?_
  show SW sc m_X3_dropLeaves _ _ _ 45 [some (.ref r0), some (.int l1), some (.int (l2 + 1))] [] h P
  exact sw_goto dX3_dropLeaves_45 (by decide) (k)
theorem b_X3_dropLeaves_48  (hP : P (.inl none) h) : SW sc m_X3_dropLeaves d rc rs 48 [none, none, none] [] h P := by
  exact sw_ret (v := none) dX3_dropLeaves_48 rt_v hP
theorem b_X3_withNeighbors_0 {r0 : Nat} {l1 : Int32} (k : SW sc m_X3_withNeighbors d rc rs 4 [some (.ref r0), some (.int l1), some (.int l1), some (.int 0)] [] h P) : SW sc m_X3_withNeighbors d rc rs 0 [some (.ref r0), some (.int l1), none, none] [] h P := by
  refine sw_iload_n dX3_withNeighbors_0 rfl ?_
  refine sw_istore_n dX3_withNeighbors_1 (by decide) rfl ?_
  show SW sc m_X3_withNeighbors _ _ _ 2 [some (.ref r0), some (.int l1), some (.int l1), none] [] h P
  refine sw_iconst (v := 0) dX3_withNeighbors_2 (by decide) ?_
  refine sw_istore_n dX3_withNeighbors_3 (by decide) rfl ?_
  show SW sc m_X3_withNeighbors _ _ _ 4 [some (.ref r0), some (.int l1), some (.int l1), some (.int 0)] [] h P
  exact (k)
theorem b_X3_withNeighbors_4 {r0 : Nat} {l1 : Int32} {l2 : Int32} {l3 : Int32} {fs3 : List Value} {x3 : Int32} (hc3 : (h)[r0]? = some (3, fs3)) (hv3 : fs3[2]? = some (.int x3)) (kt : x3 ≤ l3 → SW sc m_X3_withNeighbors d rc rs 35 [none, none, some (.int l2), none] [] h P) (kf : ¬ (x3 ≤ l3) → SW sc m_X3_withNeighbors d rc rs 12 [some (.ref r0), some (.int l1), some (.int l2), some (.int l3)] [] h P) : SW sc m_X3_withNeighbors d rc rs 4 [some (.ref r0), some (.int l1), some (.int l2), some (.int l3)] [] h P := by
  refine sw_iload_n dX3_withNeighbors_4 rfl ?_
  refine sw_aload_n dX3_withNeighbors_5 rfl ?_
  refine sw_getf dX3_withNeighbors_6 lf_X3_18 hc3 hv3 ?_
  exact sw_icmp_ge dX3_withNeighbors_9 (by decide) (fun q => (sw_fg [true, true, false, true] rfl (kt q))) (fun q => (kf q))
theorem b_X3_withNeighbors_12 {r0 : Nat} {l1 : Int32} {l2 : Int32} {l3 : Int32} {v3 : Int32} {g3 : ab_H} (hm3 : MSE m_X9_holds d [.int l1, .int l3] h (some (.int v3)) g3) (kt : v3 = 0 → SW sc m_X3_withNeighbors (d + 1) rc rs 29 [some (.ref r0), some (.int l1), some (.int l2), some (.int l3)] [] g3 P) (kf : ¬ (v3 = 0) → SW sc m_X3_withNeighbors (d + 1) rc rs 20 [some (.ref r0), some (.int l1), some (.int l2), some (.int l3)] [] g3 P) : SW sc m_X3_withNeighbors (d + 1) rc rs 12 [some (.ref r0), some (.int l1), some (.int l2), some (.int l3)] [] h P := by
  refine sw_iload_n dX3_withNeighbors_12 rfl ?_
  refine sw_iload_n dX3_withNeighbors_13 rfl ?_
  refine sw_cS (M := m_X3_withNeighbors) dX3_withNeighbors_14 ls_X3_50 hm3 rfl rfl (Nat.le_of_ble_eq_true rfl) (fun _ _ => rfl) rfl ?_
  show SW sc m_X3_withNeighbors _ _ _ 17 [some (.ref r0), some (.int l1), some (.int l2), some (.int l3)] [.int v3] g3 P
  exact sw_if_eq dX3_withNeighbors_17 (by decide) (fun q => (kt q)) (fun q => (kf q))
theorem b_X3_withNeighbors_20 {r0 : Nat} {l1 : Int32} {l2 : Int32} {l3 : Int32} {fs3 : List Value} {a3 : Nat} {vs5 : List Value} {x5 : Int32} (hc3 : (h)[r0]? = some (3, fs3)) (hv3 : fs3[0]? = some (.ref a3)) (hc5 : (h)[a3]? = some (100, vs5)) (ho5 : ¬ l3 < 0) (hi5 : vs5[l3.toNatClampNeg]? = some (.int x5)) (k : SW sc m_X3_withNeighbors d rc rs 29 [some (.ref r0), some (.int l1), some (.int (l2 ||| x5)), some (.int l3)] [] h P) : SW sc m_X3_withNeighbors d rc rs 20 [some (.ref r0), some (.int l1), some (.int l2), some (.int l3)] [] h P := by
  refine sw_iload_n dX3_withNeighbors_20 rfl ?_
  refine sw_aload_n dX3_withNeighbors_21 rfl ?_
  refine sw_getf dX3_withNeighbors_22 lf_X3_9 hc3 hv3 ?_
  refine sw_iload_n dX3_withNeighbors_25 rfl ?_
  refine sw_iald dX3_withNeighbors_26 hc5 ho5 hi5 ?_
  refine sw_ior dX3_withNeighbors_27 ?_
  refine sw_istore_n dX3_withNeighbors_28 (by decide) rfl ?_
  show SW sc m_X3_withNeighbors _ _ _ 29 [some (.ref r0), some (.int l1), some (.int (l2 ||| x5)), some (.int l3)] [] h P
  exact (k)
end
