section
variable {sc : Option (List Int32)} {d rc rs : Nat} {h : ab_H} {P : ab_O → ab_H → Prop}
theorem b_X10_regraft_0 {r0 : Nat} {l1 : Int32} {l2 : Int32} {l3 : Int32} {v4 : Int32} {g4 : ab_H} {fs4 : List Value} (hr4 : (h)[r0]? = some (10, fs4)) (hm4 : MSE m_X10_isVertex d [.ref r0, .int l1] h (some (.int v4)) g4) (kt : v4 = 0 → SW sc m_X10_regraft (d + 1) rc rs 25 [some (.ref r0), some (.int l1), some (.int l2), some (.int l3)] [.ref r0] g4 P) (kf : ¬ (v4 = 0) → SW sc m_X10_regraft (d + 1) rc rs 9 [some (.ref r0), some (.int l1), some (.int l2), some (.int l3)] [.ref r0] g4 P) : SW sc m_X10_regraft (d + 1) rc rs 0 [some (.ref r0), some (.int l1), some (.int l2), some (.int l3)] [] h P := by
  refine sw_aload_n dX10_regraft_0 rfl ?_
  refine sw_aload_n dX10_regraft_1 rfl ?_
  refine sw_iload_n dX10_regraft_2 rfl ?_
  refine sw_cV (M := m_X10_regraft) dX10_regraft_3 lv_X10_283 hm4 hr4 rfl (by decide) rfl rfl rfl (Nat.le_of_ble_eq_true rfl) (fun _ _ => rfl) rfl ?_
  show SW sc m_X10_regraft _ _ _ 6 [some (.ref r0), some (.int l1), some (.int l2), some (.int l3)] [.int v4, .ref r0] g4 P
  exact sw_if_eq dX10_regraft_6 (by decide) (fun q => (kt q)) (fun q => (kf q))
theorem b_X10_regraft_9 {r0 : Nat} {l1 : Int32} {l2 : Int32} {l3 : Int32} {q0 : Nat} {v3 : Int32} {g3 : ab_H} {fs3 : List Value} (hr3 : (h)[r0]? = some (10, fs3)) (hm3 : MSE m_X10_isVertex d [.ref r0, .int l2] h (some (.int v3)) g3) (kt : v3 = 0 → SW sc m_X10_regraft (d + 1) rc rs 25 [some (.ref r0), some (.int l1), some (.int l2), some (.int l3)] [.ref q0] g3 P) (kf : ¬ (v3 = 0) → SW sc m_X10_regraft (d + 1) rc rs 17 [some (.ref r0), some (.int l1), some (.int l2), some (.int l3)] [.ref q0] g3 P) : SW sc m_X10_regraft (d + 1) rc rs 9 [some (.ref r0), some (.int l1), some (.int l2), some (.int l3)] [.ref q0] h P := by
  refine sw_aload_n dX10_regraft_9 rfl ?_
  refine sw_iload_n dX10_regraft_10 rfl ?_
  refine sw_cV (M := m_X10_regraft) dX10_regraft_11 lv_X10_283 hm3 hr3 rfl (by decide) rfl rfl rfl (Nat.le_of_ble_eq_true rfl) (fun _ _ => rfl) rfl ?_
  show SW sc m_X10_regraft _ _ _ 14 [some (.ref r0), some (.int l1), some (.int l2), some (.int l3)] [.int v3, .ref q0] g3 P
  exact sw_if_eq dX10_regraft_14 (by decide) (fun q => (kt q)) (fun q => (kf q))
theorem b_X10_regraft_17 {r0 : Nat} {l1 : Int32} {l2 : Int32} {l3 : Int32} {q0 : Nat} {v3 : Int32} {g3 : ab_H} {fs3 : List Value} (hr3 : (h)[r0]? = some (10, fs3)) (hm3 : MSE m_X10_isVertex d [.ref r0, .int l3] h (some (.int v3)) g3) (kt : ¬ v3 = 0 → SW sc m_X10_regraft (d + 1) rc rs 29 [some (.ref r0), some (.int l1), some (.int l2), some (.int l3)] [.ref q0] g3 P) (kf : v3 = 0 → SW sc m_X10_regraft (d + 1) rc rs 25 [some (.ref r0), some (.int l1), some (.int l2), some (.int l3)] [.ref q0] g3 P) : SW sc m_X10_regraft (d + 1) rc rs 17 [some (.ref r0), some (.int l1), some (.int l2), some (.int l3)] [.ref q0] h P := by
  refine sw_aload_n dX10_regraft_17 rfl ?_
  refine sw_iload_n dX10_regraft_18 rfl ?_
  refine sw_cV (M := m_X10_regraft) dX10_regraft_19 lv_X10_283 hm3 hr3 rfl (by decide) rfl rfl rfl (Nat.le_of_ble_eq_true rfl) (fun _ _ => rfl) rfl ?_
  show SW sc m_X10_regraft _ _ _ 22 [some (.ref r0), some (.int l1), some (.int l2), some (.int l3)] [.int v3, .ref q0] g3 P
  exact sw_if_ne dX10_regraft_22 (by decide) (fun q => (kt q)) (fun q => (kf q))
theorem b_X10_regraft_25 {r0 : Nat} {l1 : Int32} {l2 : Int32} {l3 : Int32} {q0 : Nat} (k : SW sc m_X10_regraft d rc rs 30 [some (.ref r0), some (.int l1), some (.int l2), some (.int l3)] [.int 1, .ref q0] h P) : SW sc m_X10_regraft d rc rs 25 [some (.ref r0), some (.int l1), some (.int l2), some (.int l3)] [.ref q0] h P := by
  refine sw_iconst (v := 1) dX10_regraft_25 (by decide) ?_
  exact sw_goto dX10_regraft_26 (by decide) (k)
theorem b_X10_regraft_29 {r0 : Nat} {l1 : Int32} {l2 : Int32} {l3 : Int32} {q0 : Nat} (k : SW sc m_X10_regraft d rc rs 30 [some (.ref r0), some (.int l1), some (.int l2), some (.int l3)] [.int 0, .ref q0] h P) : SW sc m_X10_regraft d rc rs 29 [some (.ref r0), some (.int l1), some (.int l2), some (.int l3)] [.ref q0] h P := by
  refine sw_iconst (v := 0) dX10_regraft_29 (by decide) ?_
  exact (k)
theorem b_X10_regraft_30 {r0 : Nat} {l1 : Int32} {l2 : Int32} {l3 : Int32} {q0 : Nat} {s1 : Int32} {v2 : Int32} {g2 : ab_H} {fs2 : List Value} (hr2 : (h)[q0]? = some (10, fs2)) (hm2 : MSE m_X10_fails d [.ref q0, .int s1, .int 0] h (some (.int v2)) g2) (kt : v2 = 0 → SW sc m_X10_regraft (d + 1) rc rs 39 [some (.ref r0), some (.int l1), some (.int l2), some (.int l3)] [] g2 P) (kf : ¬ (v2 = 0) → SW sc m_X10_regraft (d + 1) rc rs 37 [none, none, none, none] [] g2 P) : SW sc m_X10_regraft (d + 1) rc rs 30 [some (.ref r0), some (.int l1), some (.int l2), some (.int l3)] [.int s1, .ref q0] h P := by
  refine sw_iconst (v := 0) dX10_regraft_30 (by decide) ?_
  refine sw_cV (M := m_X10_regraft) dX10_regraft_31 lv_X10_286 hm2 hr2 rfl (by decide) rfl rfl rfl (Nat.le_of_ble_eq_true rfl) (fun _ _ => rfl) rfl ?_
  show SW sc m_X10_regraft _ _ _ 34 [some (.ref r0), some (.int l1), some (.int l2), some (.int l3)] [.int v2] g2 P
  exact sw_if_eq dX10_regraft_34 (by decide) (fun q => (kt q)) (fun q => (sw_fg [true, true, true, true] rfl (kf q)))
theorem b_X10_regraft_37  (hP : P (.inl (some (.int 0))) h) : SW sc m_X10_regraft d rc rs 37 [none, none, none, none] [] h P := by
  refine sw_iconst (v := 0) dX10_regraft_37 (by decide) ?_
  exact sw_ret (v := (some (.int 0))) dX10_regraft_38 rt_i hP
theorem b_X10_regraft_39 {r0 : Nat} {l1 : Int32} {l2 : Int32} {l3 : Int32} {fs2 : List Value} {a2 : Nat} {vs4 : List Value} {x4 : Int32} {v6 : Int32} {g6 : ab_H} (hc2 : (h)[r0]? = some (10, fs2)) (hv2 : fs2[1]? = some (.ref a2)) (hc4 : (h)[a2]? = some (100, vs4)) (ho4 : ¬ l1 < 0) (hi4 : vs4[l1.toNatClampNeg]? = some (.int x4)) (hm6 : MSE m_X10_has d [.int x4, .int l2] h (some (.int v6)) g6) (kt : ¬ v6 = 0 → SW sc m_X10_regraft (d + 1) rc rs 60 [some (.ref r0), some (.int l1), some (.int l2), some (.int l3)] [] g6 P) (kf : v6 = 0 → SW sc m_X10_regraft (d + 1) rc rs 52 [some (.ref r0), none, none, none] [] g6 P) : SW sc m_X10_regraft (d + 1) rc rs 39 [some (.ref r0), some (.int l1), some (.int l2), some (.int l3)] [] h P := by
  refine sw_aload_n dX10_regraft_39 rfl ?_
  refine sw_getf dX10_regraft_40 lf_X10_19 hc2 hv2 ?_
  refine sw_iload_n dX10_regraft_43 rfl ?_
  refine sw_iald dX10_regraft_44 hc4 ho4 hi4 ?_
  refine sw_iload_n dX10_regraft_45 rfl ?_
  refine sw_cS (M := m_X10_regraft) dX10_regraft_46 ls_X10_70 hm6 rfl rfl (Nat.le_of_ble_eq_true rfl) (fun _ _ => rfl) rfl ?_
  show SW sc m_X10_regraft _ _ _ 49 [some (.ref r0), some (.int l1), some (.int l2), some (.int l3)] [.int v6] g6 P
  exact sw_if_ne dX10_regraft_49 (by decide) (fun q => (kt q)) (fun q => (sw_fg [false, true, true, true] rfl (kf q)))
theorem b_X10_regraft_52 {r0 : Nat} {v4 : Int32} {g4 : ab_H} {fs4 : List Value} (hr4 : (h)[r0]? = some (10, fs4)) (hm4 : MSE m_X10_counts d [.ref r0, .int 7, .int 1] h (some (.int v4)) g4) (hP : P (.inl (some (.int v4))) g4) : SW sc m_X10_regraft (d + 1) rc rs 52 [some (.ref r0), none, none, none] [] h P := by
  refine sw_aload_n dX10_regraft_52 rfl ?_
  refine sw_bipush (v := 7) dX10_regraft_53 (by decide) ?_
  refine sw_iconst (v := 1) dX10_regraft_55 (by decide) ?_
  refine sw_cV (M := m_X10_regraft) dX10_regraft_56 lv_X10_347 hm4 hr4 rfl (by decide) rfl rfl rfl (Nat.le_of_ble_eq_true rfl) (fun _ _ => rfl) rfl ?_
  show SW sc m_X10_regraft _ _ _ 59 [some (.ref r0), none, none, none] [.int v4] g4 P
  exact sw_ret (v := (some (.int v4))) dX10_regraft_59 rt_i hP
theorem b_X10_regraft_60 {r0 : Nat} {l1 : Int32} {l2 : Int32} {l3 : Int32} {v4 : Int32} {g4 : ab_H} {fs4 : List Value} {v6 : Int32} {g6 : ab_H} (hr4 : (h)[r0]? = some (10, fs4)) (hm4 : MSE m_X10_reach d [.ref r0, .int l1, .int l2] h (some (.int v4)) g4) (hm6 : MSE m_X10_has d [.int v4, .int l3] g4 (some (.int v6)) g6) (kt : v6 = 0 → SW sc m_X10_regraft (d + 1) rc rs 81 [some (.ref r0), some (.int l1), some (.int l2), some (.int l3)] [] g6 P) (kf : ¬ (v6 = 0) → SW sc m_X10_regraft (d + 1) rc rs 73 [some (.ref r0), none, none, none] [] g6 P) : SW sc m_X10_regraft (d + 1) rc rs 60 [some (.ref r0), some (.int l1), some (.int l2), some (.int l3)] [] h P := by
  refine sw_aload_n dX10_regraft_60 rfl ?_
  refine sw_iload_n dX10_regraft_61 rfl ?_
  refine sw_iload_n dX10_regraft_62 rfl ?_
  refine sw_cV (M := m_X10_regraft) dX10_regraft_63 lv_X10_77 hm4 hr4 rfl (by decide) rfl rfl rfl (Nat.le_of_ble_eq_true rfl) (fun _ _ => rfl) rfl ?_
  show SW sc m_X10_regraft _ _ _ 66 [some (.ref r0), some (.int l1), some (.int l2), some (.int l3)] [.int v4] g4 P
  refine sw_iload_n dX10_regraft_66 rfl ?_
  refine sw_cS (M := m_X10_regraft) dX10_regraft_67 ls_X10_70 hm6 rfl rfl (Nat.le_of_ble_eq_true rfl) (fun _ _ => rfl) rfl ?_
  show SW sc m_X10_regraft _ _ _ 70 [some (.ref r0), some (.int l1), some (.int l2), some (.int l3)] [.int v6] g6 P
  exact sw_if_eq dX10_regraft_70 (by decide) (fun q => (kt q)) (fun q => (sw_fg [false, true, true, true] rfl (kf q)))
theorem b_X10_regraft_73 {r0 : Nat} {v4 : Int32} {g4 : ab_H} {fs4 : List Value} (hr4 : (h)[r0]? = some (10, fs4)) (hm4 : MSE m_X10_counts d [.ref r0, .int 7, .int 2] h (some (.int v4)) g4) (hP : P (.inl (some (.int v4))) g4) : SW sc m_X10_regraft (d + 1) rc rs 73 [some (.ref r0), none, none, none] [] h P := by
  refine sw_aload_n dX10_regraft_73 rfl ?_
  refine sw_bipush (v := 7) dX10_regraft_74 (by decide) ?_
  refine sw_iconst (v := 2) dX10_regraft_76 (by decide) ?_
  refine sw_cV (M := m_X10_regraft) dX10_regraft_77 lv_X10_347 hm4 hr4 rfl (by decide) rfl rfl rfl (Nat.le_of_ble_eq_true rfl) (fun _ _ => rfl) rfl ?_
  show SW sc m_X10_regraft _ _ _ 80 [some (.ref r0), none, none, none] [.int v4] g4 P
  exact sw_ret (v := (some (.int v4))) dX10_regraft_80 rt_i hP
theorem b_X10_regraft_81 {r0 : Nat} {l1 : Int32} {l2 : Int32} {l3 : Int32} {g2 : ab_H} {fs2 : List Value} {fs4 : List Value} {a4 : Nat} {g7 : ab_H} {fs9 : List Value} {a9 : Nat} {g12 : ab_H} {v16 : Int32} {g16 : ab_H} {fs16 : List Value} (hr2 : (h)[r0]? = some (10, fs2)) (hm2 : MSE m_X10_remembers d [.ref r0] h none g2) (hc4 : (g2)[r0]? = some (10, fs4)) (hv4 : fs4[1]? = some (.ref a4)) (hm7 : MSE m_X10_parts d [.ref a4, .int l1, .int l2] g2 none g7) (hc9 : (g7)[r0]? = some (10, fs9)) (hv9 : fs9[1]? = some (.ref a9)) (hm12 : MSE m_X10_joins d [.ref a9, .int l1, .int l3] g7 none g12) (hr16 : (g12)[r0]? = some (10, fs16)) (hm16 : MSE m_X10_counts d [.ref r0, .int 2, .int 0] g12 (some (.int v16)) g16) (hP : P (.inl (some (.int v16))) g16) : SW sc m_X10_regraft (d + 1) rc rs 81 [some (.ref r0), some (.int l1), some (.int l2), some (.int l3)] [] h P := by
  refine sw_aload_n dX10_regraft_81 rfl ?_
  refine sw_cV (M := m_X10_regraft) dX10_regraft_82 lv_X10_350 hm2 hr2 rfl (by decide) rfl rfl rfl (Nat.le_of_ble_eq_true rfl) (fun _ _ => rfl) rfl ?_
  show SW sc m_X10_regraft _ _ _ 85 [some (.ref r0), some (.int l1), some (.int l2), some (.int l3)] [] g2 P
  refine sw_aload_n dX10_regraft_85 rfl ?_
  refine sw_getf dX10_regraft_86 lf_X10_19 hc4 hv4 ?_
  refine sw_iload_n dX10_regraft_89 rfl ?_
  refine sw_iload_n dX10_regraft_90 rfl ?_
  refine sw_cS (M := m_X10_regraft) dX10_regraft_91 ls_X10_274 hm7 rfl rfl (Nat.le_of_ble_eq_true rfl) (fun _ _ => rfl) rfl ?_
  show SW sc m_X10_regraft _ _ _ 94 [some (.ref r0), some (.int l1), some (.int l2), some (.int l3)] [] g7 P
  refine sw_aload_n dX10_regraft_94 rfl ?_
  refine sw_getf dX10_regraft_95 lf_X10_19 hc9 hv9 ?_
  refine sw_iload_n dX10_regraft_98 rfl ?_
  refine sw_iload_n dX10_regraft_99 rfl ?_
  refine sw_cS (M := m_X10_regraft) dX10_regraft_100 ls_X10_205 hm12 rfl rfl (Nat.le_of_ble_eq_true rfl) (fun _ _ => rfl) rfl ?_
  show SW sc m_X10_regraft _ _ _ 103 [some (.ref r0), some (.int l1), some (.int l2), some (.int l3)] [] g12 P
  refine sw_aload_n dX10_regraft_103 rfl ?_
  refine sw_iconst (v := 2) dX10_regraft_104 (by decide) ?_
  refine sw_iconst (v := 0) dX10_regraft_105 (by decide) ?_
  refine sw_cV (M := m_X10_regraft) dX10_regraft_106 lv_X10_347 hm16 hr16 rfl (by decide) rfl rfl rfl (Nat.le_of_ble_eq_true rfl) (fun _ _ => rfl) rfl ?_
  show SW sc m_X10_regraft _ _ _ 109 [some (.ref r0), some (.int l1), some (.int l2), some (.int l3)] [.int v16] g16 P
  exact sw_ret (v := (some (.int v16))) dX10_regraft_109 rt_i hP
theorem b_X10_prune_0 {r0 : Nat} {l1 : Int32} {v5 : Int32} {g5 : ab_H} (hm5 : MSE m_X10_isIn d [.int l1, .int 1, .int 9] h (some (.int v5)) g5) (kt : ¬ v5 = 0 → SW sc m_X10_prune (d + 1) rc rs 15 [some (.ref r0), some (.int l1), none, none] [.ref r0] g5 P) (kf : v5 = 0 → SW sc m_X10_prune (d + 1) rc rs 11 [some (.ref r0), some (.int l1), none, none] [.ref r0] g5 P) : SW sc m_X10_prune (d + 1) rc rs 0 [some (.ref r0), some (.int l1), none, none] [] h P := by
  refine sw_aload_n dX10_prune_0 rfl ?_
  refine sw_iload_n dX10_prune_1 rfl ?_
  refine sw_iconst (v := 1) dX10_prune_2 (by decide) ?_
  refine sw_bipush (v := 9) dX10_prune_3 (by decide) ?_
  refine sw_cS (M := m_X10_prune) dX10_prune_5 ls_X10_153 hm5 rfl rfl (Nat.le_of_ble_eq_true rfl) (fun _ _ => rfl) rfl ?_
  show SW sc m_X10_prune _ _ _ 8 [some (.ref r0), some (.int l1), none, none] [.int v5, .ref r0] g5 P
  exact sw_if_ne dX10_prune_8 (by decide) (fun q => (kt q)) (fun q => (kf q))
theorem b_X10_prune_11 {r0 : Nat} {l1 : Int32} {q0 : Nat} (k : SW sc m_X10_prune d rc rs 16 [some (.ref r0), some (.int l1), none, none] [.int 1, .ref q0] h P) : SW sc m_X10_prune d rc rs 11 [some (.ref r0), some (.int l1), none, none] [.ref q0] h P := by
  refine sw_iconst (v := 1) dX10_prune_11 (by decide) ?_
  exact sw_goto dX10_prune_12 (by decide) (k)
theorem b_X10_prune_15 {r0 : Nat} {l1 : Int32} {q0 : Nat} (k : SW sc m_X10_prune d rc rs 16 [some (.ref r0), some (.int l1), none, none] [.int 0, .ref q0] h P) : SW sc m_X10_prune d rc rs 15 [some (.ref r0), some (.int l1), none, none] [.ref q0] h P := by
  refine sw_iconst (v := 0) dX10_prune_15 (by decide) ?_
  exact (k)
theorem b_X10_prune_16 {r0 : Nat} {l1 : Int32} {q0 : Nat} {s1 : Int32} {v2 : Int32} {g2 : ab_H} {fs2 : List Value} (hr2 : (h)[q0]? = some (10, fs2)) (hm2 : MSE m_X10_fails d [.ref q0, .int s1, .int 0] h (some (.int v2)) g2) (kt : v2 = 0 → SW sc m_X10_prune (d + 1) rc rs 25 [some (.ref r0), some (.int l1), none, none] [] g2 P) (kf : ¬ (v2 = 0) → SW sc m_X10_prune (d + 1) rc rs 23 [none, none, none, none] [] g2 P) : SW sc m_X10_prune (d + 1) rc rs 16 [some (.ref r0), some (.int l1), none, none] [.int s1, .ref q0] h P := by
  refine sw_iconst (v := 0) dX10_prune_16 (by decide) ?_
  refine sw_cV (M := m_X10_prune) dX10_prune_17 lv_X10_286 hm2 hr2 rfl (by decide) rfl rfl rfl (Nat.le_of_ble_eq_true rfl) (fun _ _ => rfl) rfl ?_
  show SW sc m_X10_prune _ _ _ 20 [some (.ref r0), some (.int l1), none, none] [.int v2] g2 P
  exact sw_if_eq dX10_prune_20 (by decide) (fun q => (kt q)) (fun q => (sw_fg [true, true, false, false] rfl (kf q)))
theorem b_X10_prune_23  (hP : P (.inl (some (.int 0))) h) : SW sc m_X10_prune d rc rs 23 [none, none, none, none] [] h P := by
  refine sw_iconst (v := 0) dX10_prune_23 (by decide) ?_
  exact sw_ret (v := (some (.int 0))) dX10_prune_24 rt_i hP
theorem b_X10_prune_25 {r0 : Nat} {l1 : Int32} {g2 : ab_H} {fs2 : List Value} {fs4 : List Value} {a4 : Nat} {vs7 : List Value} {x7 : Int32} {vs10 : List Value} {g12 : ab_H} {fs12 : List Value} (hr2 : (h)[r0]? = some (10, fs2)) (hm2 : MSE m_X10_remembers d [.ref r0] h none g2) (hc4 : (g2)[r0]? = some (10, fs4)) (hv4 : fs4[5]? = some (.ref a4)) (hc7 : (g2)[a4]? = some (100, vs7)) (ho7 : ¬ (3 : Int32) < 0) (hi7 : vs7[(3 : Int32).toNatClampNeg]? = some (.int x7)) (hc10 : (g2)[a4]? = some (100, vs10)) (ho10 : ¬ (3 : Int32) < 0) (hl10 : (3 : Int32).toNatClampNeg < vs10.length) (hr12 : ((g2).set a4 (100, vs10.set (3 : Int32).toNatClampNeg (.int (x7 + l1))))[r0]? = some (10, fs12)) (hm12 : MSE m_X10_layOther d [.ref r0] ((g2).set a4 (100, vs10.set (3 : Int32).toNatClampNeg (.int (x7 + l1)))) none g12) (k : SW sc m_X10_prune (d + 1) rc rs 47 [some (.ref r0), some (.int l1), some (.int 0), some (.int 0)] [] g12 P) : SW sc m_X10_prune (d + 1) rc rs 25 [some (.ref r0), some (.int l1), none, none] [] h P := by
  refine sw_aload_n dX10_prune_25 rfl ?_
  refine sw_cV (M := m_X10_prune) dX10_prune_26 lv_X10_350 hm2 hr2 rfl (by decide) rfl rfl rfl (Nat.le_of_ble_eq_true rfl) (fun _ _ => rfl) rfl ?_
  show SW sc m_X10_prune _ _ _ 29 [some (.ref r0), some (.int l1), none, none] [] g2 P
  refine sw_aload_n dX10_prune_29 rfl ?_
  refine sw_getf dX10_prune_30 lf_X10_32 hc4 hv4 ?_
  refine sw_iconst (v := 3) dX10_prune_33 (by decide) ?_
  refine sw_dup2 dX10_prune_34 (fun _ _ => rfl) (fun _ _ => rfl) ?_
  refine sw_iald dX10_prune_35 hc7 ho7 hi7 ?_
  refine sw_iload_n dX10_prune_36 rfl ?_
  refine sw_iadd dX10_prune_37 ?_
  refine sw_iast dX10_prune_38 hc10 ho10 hl10 ?_
  refine sw_aload_n dX10_prune_39 rfl ?_
  refine sw_cV (M := m_X10_prune) dX10_prune_40 lv_X10_277 hm12 hr12 rfl (by decide) rfl rfl rfl (Nat.le_of_ble_eq_true rfl) (fun _ _ => rfl) rfl ?_
  show SW sc m_X10_prune _ _ _ 43 [some (.ref r0), some (.int l1), none, none] [] g12 P
  refine sw_iconst (v := 0) dX10_prune_43 (by decide) ?_
  refine sw_istore_n dX10_prune_44 (by decide) rfl ?_
  show SW sc m_X10_prune _ _ _ 45 [some (.ref r0), some (.int l1), some (.int 0), none] [] g12 P
  refine sw_iconst (v := 0) dX10_prune_45 (by decide) ?_
  refine sw_istore_n dX10_prune_46 (by decide) rfl ?_
  show SW sc m_X10_prune _ _ _ 47 [some (.ref r0), some (.int l1), some (.int 0), some (.int 0)] [] g12 P
  exact (k)
theorem b_X10_prune_47 {r0 : Nat} {l1 : Int32} {l2 : Int32} {l3 : Int32} (kt : l1 ≤ l3 → SW sc m_X10_prune d rc rs 65 [some (.ref r0), none, some (.int l2), none] [] h P) (kf : ¬ (l1 ≤ l3) → SW sc m_X10_prune d rc rs 52 [some (.ref r0), some (.int l1), some (.int l2), some (.int l3)] [] h P) : SW sc m_X10_prune d rc rs 47 [some (.ref r0), some (.int l1), some (.int l2), some (.int l3)] [] h P := by
  refine sw_iload_n dX10_prune_47 rfl ?_
  refine sw_iload_n dX10_prune_48 rfl ?_
  exact sw_icmp_ge dX10_prune_49 (by decide) (fun q => (sw_fg [false, true, false, true] rfl (kt q))) (fun q => (kf q))
theorem b_X10_prune_52 {r0 : Nat} {l1 : Int32} {l2 : Int32} {l3 : Int32} {v3 : Int32} {g3 : ab_H} {fs3 : List Value} (hr3 : (h)[r0]? = some (10, fs3)) (hm3 : MSE m_X10_prunes d [.ref r0] h (some (.int v3)) g3) (k : SW sc m_X10_prune (d + 1) rc rs 47 [some (.ref r0), some (.int l1), some (.int (l2 + v3)), some (.int (l3 + 1))] [] g3 P) : SW sc m_X10_prune (d + 1) rc rs 52 [some (.ref r0), some (.int l1), some (.int l2), some (.int l3)] [] h P := by
  refine sw_iload_n dX10_prune_52 rfl ?_
  refine sw_aload_n dX10_prune_53 rfl ?_
  refine sw_cV (M := m_X10_prune) dX10_prune_54 lv_X10_280 hm3 hr3 rfl (by decide) rfl rfl rfl (Nat.le_of_ble_eq_true rfl) (fun _ _ => rfl) rfl ?_
  show SW sc m_X10_prune _ _ _ 57 [some (.ref r0), some (.int l1), some (.int l2), some (.int l3)] [.int v3, .int l2] g3 P
  refine sw_iadd dX10_prune_57 ?_
  refine sw_istore_n dX10_prune_58 (by decide) rfl ?_
  show SW sc m_X10_prune _ _ _ 59 [some (.ref r0), some (.int l1), some (.int (l2 + v3)), some (.int l3)] [] g3 P
  refine sw_iinc (v := l3 + 1) dX10_prune_59 rfl rfl (by decide) rfl ?_
  show SW sc m_X10_prune _ _ _ 62 [some (.ref r0), some (.int l1), some (.int (l2 + v3)), some (.int (l3 + 1))] [] g3 P
  exact sw_goto dX10_prune_62 (by decide) (k)
theorem b_X10_prune_65 {r0 : Nat} {l2 : Int32} (k : SW sc m_X10_prune d rc rs 67 [some (.ref r0), none, some (.int l2), some (.int 0)] [] h P) : SW sc m_X10_prune d rc rs 65 [some (.ref r0), none, some (.int l2), none] [] h P := by
  refine sw_iconst (v := 0) dX10_prune_65 (by decide) ?_
  refine sw_istore_n dX10_prune_66 (by decide) rfl ?_
  show SW sc m_X10_prune _ _ _ 67 [some (.ref r0), none, some (.int l2), some (.int 0)] [] h P
  exact (k)
theorem b_X10_prune_67 {r0 : Nat} {l2 : Int32} {l3 : Int32} (kt : 20 ≤ l3 → SW sc m_X10_prune d rc rs 91 [none, none, some (.int l2), none] [] h P) (kf : ¬ (20 ≤ l3) → SW sc m_X10_prune d rc rs 73 [some (.ref r0), none, some (.int l2), some (.int l3)] [] h P) : SW sc m_X10_prune d rc rs 67 [some (.ref r0), none, some (.int l2), some (.int l3)] [] h P := by
  refine sw_iload_n dX10_prune_67 rfl ?_
  refine sw_bipush (v := 20) dX10_prune_68 (by decide) ?_
  exact sw_icmp_ge dX10_prune_70 (by decide) (fun q => (sw_fg [true, false, false, true] rfl (kt q))) (fun q => (kf q))
theorem b_X10_prune_73 {r0 : Nat} {l2 : Int32} {l3 : Int32} {fs2 : List Value} {a2 : Nat} {fs5 : List Value} {a5 : Nat} {vs7 : List Value} {x7 : Int32} {vs8 : List Value} (hc2 : (h)[r0]? = some (10, fs2)) (hv2 : fs2[1]? = some (.ref a2)) (hc5 : (h)[r0]? = some (10, fs5)) (hv5 : fs5[2]? = some (.ref a5)) (hc7 : (h)[a5]? = some (100, vs7)) (ho7 : ¬ l3 < 0) (hi7 : vs7[l3.toNatClampNeg]? = some (.int x7)) (hc8 : (h)[a2]? = some (100, vs8)) (ho8 : ¬ l3 < 0) (hl8 : l3.toNatClampNeg < vs8.length) (k : SW sc m_X10_prune d rc rs 67 [some (.ref r0), none, some (.int l2), some (.int (l3 + 1))] [] ((h).set a2 (100, vs8.set l3.toNatClampNeg (.int x7))) P) : SW sc m_X10_prune d rc rs 73 [some (.ref r0), none, some (.int l2), some (.int l3)] [] h P := by
  refine sw_aload_n dX10_prune_73 rfl ?_
  refine sw_getf dX10_prune_74 lf_X10_19 hc2 hv2 ?_
  refine sw_iload_n dX10_prune_77 rfl ?_
  refine sw_aload_n dX10_prune_78 rfl ?_
  refine sw_getf dX10_prune_79 lf_X10_23 hc5 hv5 ?_
  refine sw_iload_n dX10_prune_82 rfl ?_
  refine sw_iald dX10_prune_83 hc7 ho7 hi7 ?_
  refine sw_iast dX10_prune_84 hc8 ho8 hl8 ?_
  refine sw_iinc (v := l3 + 1) dX10_prune_85 rfl rfl (by decide) rfl ?_
  show SW sc m_X10_prune _ _ _ 88 [some (.ref r0), none, some (.int l2), some (.int (l3 + 1))] [] ((h).set a2 (100, vs8.set l3.toNatClampNeg (.int x7))) P
  exact sw_goto dX10_prune_88 (by decide) (k)
theorem b_X10_prune_91 {l2 : Int32} (hP : P (.inl (some (.int l2))) h) : SW sc m_X10_prune d rc rs 91 [none, none, some (.int l2), none] [] h P := by
  refine sw_iload_n dX10_prune_91 rfl ?_
  exact sw_ret (v := (some (.int l2))) dX10_prune_92 rt_i hP
theorem b_X10_comes_0 {r0 : Nat} (k : SW sc m_X10_comes d rc rs 4 [some (.ref r0), some (.int 0), some (.int 0)] [] h P) : SW sc m_X10_comes d rc rs 0 [some (.ref r0), none, none] [] h P := by
  refine sw_iconst (v := 0) dX10_comes_0 (by decide) ?_
  refine sw_istore_n dX10_comes_1 (by decide) rfl ?_
  show SW sc m_X10_comes _ _ _ 2 [some (.ref r0), some (.int 0), none] [] h P
  refine sw_iconst (v := 0) dX10_comes_2 (by decide) ?_
  refine sw_istore_n dX10_comes_3 (by decide) rfl ?_
  show SW sc m_X10_comes _ _ _ 4 [some (.ref r0), some (.int 0), some (.int 0)] [] h P
  exact (k)
theorem b_X10_comes_4 {r0 : Nat} {l1 : Int32} {l2 : Int32} {fs3 : List Value} {x3 : Int32} (hc3 : (h)[r0]? = some (10, fs3)) (hv3 : fs3[6]? = some (.int x3)) (kt : x3 ≤ l2 → SW sc m_X10_comes d rc rs 39 [some (.ref r0), some (.int l1), none] [] h P) (kf : ¬ (x3 ≤ l2) → SW sc m_X10_comes d rc rs 12 [some (.ref r0), some (.int l1), some (.int l2)] [] h P) : SW sc m_X10_comes d rc rs 4 [some (.ref r0), some (.int l1), some (.int l2)] [] h P := by
  refine sw_iload_n dX10_comes_4 rfl ?_
  refine sw_aload_n dX10_comes_5 rfl ?_
  refine sw_getf dX10_comes_6 lf_X10_35 hc3 hv3 ?_
  exact sw_icmp_ge dX10_comes_9 (by decide) (fun q => (sw_fg [false, false, true] rfl (kt q))) (fun q => (kf q))
theorem b_X10_comes_12 {r0 : Nat} {l1 : Int32} {l2 : Int32} {fs3 : List Value} {a3 : Nat} {vs5 : List Value} {x5 : Int32} {fs7 : List Value} {a7 : Nat} {vs9 : List Value} {x9 : Int32} {v13 : Int32} {g13 : ab_H} (hc3 : (h)[r0]? = some (10, fs3)) (hv3 : fs3[2]? = some (.ref a3)) (hc5 : (h)[a3]? = some (100, vs5)) (ho5 : ¬ l2 < 0) (hi5 : vs5[l2.toNatClampNeg]? = some (.int x5)) (hc7 : (h)[r0]? = some (10, fs7)) (hv7 : fs7[1]? = some (.ref a7)) (hc9 : (h)[a7]? = some (100, vs9)) (ho9 : ¬ l2 < 0) (hi9 : vs9[l2.toNatClampNeg]? = some (.int x9)) (hm13 : MSE m_X10_ones d [.int (x5 &&& (x9 ^^^ (-1)))] h (some (.int v13)) g13) (k : SW sc m_X10_comes (d + 1) rc rs 4 [some (.ref r0), some (.int (l1 + v13)), some (.int (l2 + 1))] [] g13 P) : SW sc m_X10_comes (d + 1) rc rs 12 [some (.ref r0), some (.int l1), some (.int l2)] [] h P := by
  refine sw_iload_n dX10_comes_12 rfl ?_
  refine sw_aload_n dX10_comes_13 rfl ?_
  refine sw_getf dX10_comes_14 lf_X10_23 hc3 hv3 ?_
  refine sw_iload_n dX10_comes_17 rfl ?_
  refine sw_iald dX10_comes_18 hc5 ho5 hi5 ?_
  refine sw_aload_n dX10_comes_19 rfl ?_
  refine sw_getf dX10_comes_20 lf_X10_19 hc7 hv7 ?_
  refine sw_iload_n dX10_comes_23 rfl ?_
  refine sw_iald dX10_comes_24 hc9 ho9 hi9 ?_
  refine sw_iconst (v := (-1)) dX10_comes_25 (by decide) ?_
  refine sw_ixor dX10_comes_26 ?_
  refine sw_iand dX10_comes_27 ?_
  refine sw_cS (M := m_X10_comes) dX10_comes_28 ls_X10_111 hm13 rfl rfl (Nat.le_of_ble_eq_true rfl) (fun _ _ => rfl) rfl ?_
  show SW sc m_X10_comes _ _ _ 31 [some (.ref r0), some (.int l1), some (.int l2)] [.int v13, .int l1] g13 P
  refine sw_iadd dX10_comes_31 ?_
  refine sw_istore_n dX10_comes_32 (by decide) rfl ?_
  show SW sc m_X10_comes _ _ _ 33 [some (.ref r0), some (.int (l1 + v13)), some (.int l2)] [] g13 P
  refine sw_iinc (v := l2 + 1) dX10_comes_33 rfl rfl (by decide) rfl ?_
  show SW sc m_X10_comes _ _ _ 36 [some (.ref r0), some (.int (l1 + v13)), some (.int (l2 + 1))] [] g13 P
  exact sw_goto dX10_comes_36 (by decide) (k)
theorem b_X10_comes_39 {r0 : Nat} {l1 : Int32} (k : SW sc m_X10_comes d rc rs 41 [some (.ref r0), some (.int l1), some (.int 0)] [] h P) : SW sc m_X10_comes d rc rs 39 [some (.ref r0), some (.int l1), none] [] h P := by
  refine sw_iconst (v := 0) dX10_comes_39 (by decide) ?_
  refine sw_istore_n dX10_comes_40 (by decide) rfl ?_
  show SW sc m_X10_comes _ _ _ 41 [some (.ref r0), some (.int l1), some (.int 0)] [] h P
  exact (k)
theorem b_X10_comes_41 {r0 : Nat} {l1 : Int32} {l2 : Int32} {fs3 : List Value} {x3 : Int32} (hc3 : (h)[r0]? = some (10, fs3)) (hv3 : fs3[6]? = some (.int x3)) (kt : x3 ≤ l2 → SW sc m_X10_comes d rc rs 67 [none, some (.int l1), none] [] h P) (kf : ¬ (x3 ≤ l2) → SW sc m_X10_comes d rc rs 49 [some (.ref r0), some (.int l1), some (.int l2)] [] h P) : SW sc m_X10_comes d rc rs 41 [some (.ref r0), some (.int l1), some (.int l2)] [] h P := by
  refine sw_iload_n dX10_comes_41 rfl ?_
  refine sw_aload_n dX10_comes_42 rfl ?_
  refine sw_getf dX10_comes_43 lf_X10_35 hc3 hv3 ?_
  exact sw_icmp_ge dX10_comes_46 (by decide) (fun q => (sw_fg [true, false, true] rfl (kt q))) (fun q => (kf q))
theorem b_X10_comes_49 {r0 : Nat} {l1 : Int32} {l2 : Int32} {fs2 : List Value} {a2 : Nat} {fs5 : List Value} {a5 : Nat} {vs7 : List Value} {x7 : Int32} {vs8 : List Value} (hc2 : (h)[r0]? = some (10, fs2)) (hv2 : fs2[1]? = some (.ref a2)) (hc5 : (h)[r0]? = some (10, fs5)) (hv5 : fs5[2]? = some (.ref a5)) (hc7 : (h)[a5]? = some (100, vs7)) (ho7 : ¬ l2 < 0) (hi7 : vs7[l2.toNatClampNeg]? = some (.int x7)) (hc8 : (h)[a2]? = some (100, vs8)) (ho8 : ¬ l2 < 0) (hl8 : l2.toNatClampNeg < vs8.length) (k : SW sc m_X10_comes d rc rs 41 [some (.ref r0), some (.int l1), some (.int (l2 + 1))] [] ((h).set a2 (100, vs8.set l2.toNatClampNeg (.int x7))) P) : SW sc m_X10_comes d rc rs 49 [some (.ref r0), some (.int l1), some (.int l2)] [] h P := by
  refine sw_aload_n dX10_comes_49 rfl ?_
  refine sw_getf dX10_comes_50 lf_X10_19 hc2 hv2 ?_
  refine sw_iload_n dX10_comes_53 rfl ?_
  refine sw_aload_n dX10_comes_54 rfl ?_
  refine sw_getf dX10_comes_55 lf_X10_23 hc5 hv5 ?_
  refine sw_iload_n dX10_comes_58 rfl ?_
  refine sw_iald dX10_comes_59 hc7 ho7 hi7 ?_
  refine sw_iast dX10_comes_60 hc8 ho8 hl8 ?_
  refine sw_iinc (v := l2 + 1) dX10_comes_61 rfl rfl (by decide) rfl ?_
  show SW sc m_X10_comes _ _ _ 64 [some (.ref r0), some (.int l1), some (.int (l2 + 1))] [] ((h).set a2 (100, vs8.set l2.toNatClampNeg (.int x7))) P
  exact sw_goto dX10_comes_64 (by decide) (k)
theorem b_X10_comes_67 {l1 : Int32} (hz3 : ¬ (2 : Int32) = 0) (hP : P (.inl (some (.int (l1 / 2)))) h) : SW sc m_X10_comes d rc rs 67 [none, some (.int l1), none] [] h P := by
  refine sw_iload_n dX10_comes_67 rfl ?_
  refine sw_iconst (v := 2) dX10_comes_68 (by decide) ?_
  refine sw_idiv dX10_comes_69 hz3 ?_
  exact sw_ret (v := (some (.int (l1 / 2)))) dX10_comes_70 rt_i hP
theorem b_X10_exchanged_0 {l0 : Int32} {l1 : Int32} {l2 : Int32} (kt : ¬ l0 = l1 → SW sc m_X10_exchanged d rc rs 9 [some (.int l0), some (.int l1), some (.int l2)] [] h P) (kf : l0 = l1 → SW sc m_X10_exchanged d rc rs 5 [none, none, some (.int l2)] [] h P) : SW sc m_X10_exchanged d rc rs 0 [some (.int l0), some (.int l1), some (.int l2)] [] h P := by
  refine sw_iload_n dX10_exchanged_0 rfl ?_
  refine sw_iload_n dX10_exchanged_1 rfl ?_
  exact sw_icmp_ne dX10_exchanged_2 (by decide) (fun q => (kt q)) (fun q => (sw_fg [true, true, false] rfl (kf q)))
theorem b_X10_exchanged_5 {l2 : Int32} (k : SW sc m_X10_exchanged d rc rs 19 [none, none, none] [.int l2] h P) : SW sc m_X10_exchanged d rc rs 5 [none, none, some (.int l2)] [] h P := by
  refine sw_iload_n dX10_exchanged_5 rfl ?_
  exact sw_goto dX10_exchanged_6 (by decide) (sw_fg [false, false, true] rfl (k))
theorem b_X10_exchanged_9 {l0 : Int32} {l1 : Int32} {l2 : Int32} (kt : ¬ l0 = l2 → SW sc m_X10_exchanged d rc rs 18 [some (.int l0), none, none] [] h P) (kf : l0 = l2 → SW sc m_X10_exchanged d rc rs 14 [none, some (.int l1), none] [] h P) : SW sc m_X10_exchanged d rc rs 9 [some (.int l0), some (.int l1), some (.int l2)] [] h P := by
  refine sw_iload_n dX10_exchanged_9 rfl ?_
  refine sw_iload_n dX10_exchanged_10 rfl ?_
  exact sw_icmp_ne dX10_exchanged_11 (by decide) (fun q => (sw_fg [false, true, true] rfl (kt q))) (fun q => (sw_fg [true, false, true] rfl (kf q)))
theorem b_X10_exchanged_14 {l1 : Int32} (k : SW sc m_X10_exchanged d rc rs 19 [none, none, none] [.int l1] h P) : SW sc m_X10_exchanged d rc rs 14 [none, some (.int l1), none] [] h P := by
  refine sw_iload_n dX10_exchanged_14 rfl ?_
  exact sw_goto dX10_exchanged_15 (by decide) (sw_fg [false, true, false] rfl (k))
theorem b_X10_exchanged_18 {l0 : Int32} (k : SW sc m_X10_exchanged d rc rs 19 [none, none, none] [.int l0] h P) : SW sc m_X10_exchanged d rc rs 18 [some (.int l0), none, none] [] h P := by
  refine sw_iload_n dX10_exchanged_18 rfl ?_
  exact (sw_fg [true, false, false] rfl (k))
theorem b_X10_exchanged_19 {s0 : Int32} (hP : P (.inl (some (.int s0))) h) : SW sc m_X10_exchanged d rc rs 19 [none, none, none] [.int s0] h P := by
  exact sw_ret (v := (some (.int s0))) dX10_exchanged_19 rt_i hP
theorem b_X10_swap_0 {r0 : Nat} {l1 : Int32} {l2 : Int32} {v4 : Int32} {g4 : ab_H} {fs4 : List Value} (hr4 : (h)[r0]? = some (10, fs4)) (hm4 : MSE m_X10_isVertex d [.ref r0, .int l1] h (some (.int v4)) g4) (kt : v4 = 0 → SW sc m_X10_swap (d + 1) rc rs 17 [some (.ref r0), some (.int l1), some (.int l2), none, none] [.ref r0] g4 P) (kf : ¬ (v4 = 0) → SW sc m_X10_swap (d + 1) rc rs 9 [some (.ref r0), some (.int l1), some (.int l2), none, none] [.ref r0] g4 P) : SW sc m_X10_swap (d + 1) rc rs 0 [some (.ref r0), some (.int l1), some (.int l2), none, none] [] h P := by
  refine sw_aload_n dX10_swap_0 rfl ?_
  refine sw_aload_n dX10_swap_1 rfl ?_
  refine sw_iload_n dX10_swap_2 rfl ?_
  refine sw_cV (M := m_X10_swap) dX10_swap_3 lv_X10_283 hm4 hr4 rfl (by decide) rfl rfl rfl (Nat.le_of_ble_eq_true rfl) (fun _ _ => rfl) rfl ?_
  show SW sc m_X10_swap _ _ _ 6 [some (.ref r0), some (.int l1), some (.int l2), none, none] [.int v4, .ref r0] g4 P
  exact sw_if_eq dX10_swap_6 (by decide) (fun q => (kt q)) (fun q => (kf q))
theorem b_X10_swap_9 {r0 : Nat} {l1 : Int32} {l2 : Int32} {q0 : Nat} {v3 : Int32} {g3 : ab_H} {fs3 : List Value} (hr3 : (h)[r0]? = some (10, fs3)) (hm3 : MSE m_X10_isVertex d [.ref r0, .int l2] h (some (.int v3)) g3) (kt : ¬ v3 = 0 → SW sc m_X10_swap (d + 1) rc rs 21 [some (.ref r0), some (.int l1), some (.int l2), none, none] [.ref q0] g3 P) (kf : v3 = 0 → SW sc m_X10_swap (d + 1) rc rs 17 [some (.ref r0), some (.int l1), some (.int l2), none, none] [.ref q0] g3 P) : SW sc m_X10_swap (d + 1) rc rs 9 [some (.ref r0), some (.int l1), some (.int l2), none, none] [.ref q0] h P := by
  refine sw_aload_n dX10_swap_9 rfl ?_
  refine sw_iload_n dX10_swap_10 rfl ?_
  refine sw_cV (M := m_X10_swap) dX10_swap_11 lv_X10_283 hm3 hr3 rfl (by decide) rfl rfl rfl (Nat.le_of_ble_eq_true rfl) (fun _ _ => rfl) rfl ?_
  show SW sc m_X10_swap _ _ _ 14 [some (.ref r0), some (.int l1), some (.int l2), none, none] [.int v3, .ref q0] g3 P
  exact sw_if_ne dX10_swap_14 (by decide) (fun q => (kt q)) (fun q => (kf q))
theorem b_X10_swap_17 {r0 : Nat} {l1 : Int32} {l2 : Int32} {q0 : Nat} (k : SW sc m_X10_swap d rc rs 22 [some (.ref r0), some (.int l1), some (.int l2), none, none] [.int 1, .ref q0] h P) : SW sc m_X10_swap d rc rs 17 [some (.ref r0), some (.int l1), some (.int l2), none, none] [.ref q0] h P := by
  refine sw_iconst (v := 1) dX10_swap_17 (by decide) ?_
  exact sw_goto dX10_swap_18 (by decide) (k)
theorem b_X10_swap_21 {r0 : Nat} {l1 : Int32} {l2 : Int32} {q0 : Nat} (k : SW sc m_X10_swap d rc rs 22 [some (.ref r0), some (.int l1), some (.int l2), none, none] [.int 0, .ref q0] h P) : SW sc m_X10_swap d rc rs 21 [some (.ref r0), some (.int l1), some (.int l2), none, none] [.ref q0] h P := by
  refine sw_iconst (v := 0) dX10_swap_21 (by decide) ?_
  exact (k)
theorem b_X10_swap_22 {r0 : Nat} {l1 : Int32} {l2 : Int32} {q0 : Nat} {s1 : Int32} {v2 : Int32} {g2 : ab_H} {fs2 : List Value} (hr2 : (h)[q0]? = some (10, fs2)) (hm2 : MSE m_X10_fails d [.ref q0, .int s1, .int 0] h (some (.int v2)) g2) (kt : v2 = 0 → SW sc m_X10_swap (d + 1) rc rs 31 [some (.ref r0), some (.int l1), some (.int l2), none, none] [] g2 P) (kf : ¬ (v2 = 0) → SW sc m_X10_swap (d + 1) rc rs 29 [none, none, none, none, none] [] g2 P) : SW sc m_X10_swap (d + 1) rc rs 22 [some (.ref r0), some (.int l1), some (.int l2), none, none] [.int s1, .ref q0] h P := by
  refine sw_iconst (v := 0) dX10_swap_22 (by decide) ?_
  refine sw_cV (M := m_X10_swap) dX10_swap_23 lv_X10_286 hm2 hr2 rfl (by decide) rfl rfl rfl (Nat.le_of_ble_eq_true rfl) (fun _ _ => rfl) rfl ?_
  show SW sc m_X10_swap _ _ _ 26 [some (.ref r0), some (.int l1), some (.int l2), none, none] [.int v2] g2 P
  exact sw_if_eq dX10_swap_26 (by decide) (fun q => (kt q)) (fun q => (sw_fg [true, true, true, false, false] rfl (kf q)))
theorem b_X10_swap_29  (hP : P (.inl (some (.int 0))) h) : SW sc m_X10_swap d rc rs 29 [none, none, none, none, none] [] h P := by
  refine sw_iconst (v := 0) dX10_swap_29 (by decide) ?_
  exact sw_ret (v := (some (.int 0))) dX10_swap_30 rt_i hP
theorem b_X10_swap_31 {r0 : Nat} {l1 : Int32} {l2 : Int32} {g2 : ab_H} {fs2 : List Value} (hr2 : (h)[r0]? = some (10, fs2)) (hm2 : MSE m_X10_remembers d [.ref r0] h none g2) (k : SW sc m_X10_swap (d + 1) rc rs 37 [some (.ref r0), some (.int l1), some (.int l2), some (.int 0), none] [] g2 P) : SW sc m_X10_swap (d + 1) rc rs 31 [some (.ref r0), some (.int l1), some (.int l2), none, none] [] h P := by
  refine sw_aload_n dX10_swap_31 rfl ?_
  refine sw_cV (M := m_X10_swap) dX10_swap_32 lv_X10_350 hm2 hr2 rfl (by decide) rfl rfl rfl (Nat.le_of_ble_eq_true rfl) (fun _ _ => rfl) rfl ?_
  show SW sc m_X10_swap _ _ _ 35 [some (.ref r0), some (.int l1), some (.int l2), none, none] [] g2 P
  refine sw_iconst (v := 0) dX10_swap_35 (by decide) ?_
  refine sw_istore_n dX10_swap_36 (by decide) rfl ?_
  show SW sc m_X10_swap _ _ _ 37 [some (.ref r0), some (.int l1), some (.int l2), some (.int 0), none] [] g2 P
  exact (k)
theorem b_X10_swap_37 {r0 : Nat} {l1 : Int32} {l2 : Int32} {l3 : Int32} (kt : 10 ≤ l3 → SW sc m_X10_swap d rc rs 56 [some (.ref r0), some (.int l1), some (.int l2), none, none] [] h P) (kf : ¬ (10 ≤ l3) → SW sc m_X10_swap d rc rs 43 [some (.ref r0), some (.int l1), some (.int l2), some (.int l3), none] [] h P) : SW sc m_X10_swap d rc rs 37 [some (.ref r0), some (.int l1), some (.int l2), some (.int l3), none] [] h P := by
  refine sw_iload_n dX10_swap_37 rfl ?_
  refine sw_bipush (v := 10) dX10_swap_38 (by decide) ?_
  exact sw_icmp_ge dX10_swap_40 (by decide) (fun q => (sw_fg [false, false, false, true, false] rfl (kt q))) (fun q => (kf q))
theorem b_X10_swap_43 {r0 : Nat} {l1 : Int32} {l2 : Int32} {l3 : Int32} {fs2 : List Value} {a2 : Nat} {vs5 : List Value} (hc2 : (h)[r0]? = some (10, fs2)) (hv2 : fs2[2]? = some (.ref a2)) (hc5 : (h)[a2]? = some (100, vs5)) (ho5 : ¬ l3 < 0) (hl5 : l3.toNatClampNeg < vs5.length) (k : SW sc m_X10_swap d rc rs 37 [some (.ref r0), some (.int l1), some (.int l2), some (.int (l3 + 1)), none] [] ((h).set a2 (100, vs5.set l3.toNatClampNeg (.int 0))) P) : SW sc m_X10_swap d rc rs 43 [some (.ref r0), some (.int l1), some (.int l2), some (.int l3), none] [] h P := by
  refine sw_aload_n dX10_swap_43 rfl ?_
  refine sw_getf dX10_swap_44 lf_X10_23 hc2 hv2 ?_
  refine sw_iload_n dX10_swap_47 rfl ?_
  refine sw_iconst (v := 0) dX10_swap_48 (by decide) ?_
  refine sw_iast dX10_swap_49 hc5 ho5 hl5 ?_
  refine sw_iinc (v := l3 + 1) dX10_swap_50 rfl rfl (by decide) rfl ?_
  show SW sc m_X10_swap _ _ _ 53 [some (.ref r0), some (.int l1), some (.int l2), some (.int (l3 + 1)), none] [] ((h).set a2 (100, vs5.set l3.toNatClampNeg (.int 0))) P
  exact sw_goto dX10_swap_53 (by decide) (k)
theorem b_X10_swap_56 {r0 : Nat} {l1 : Int32} {l2 : Int32} (k : SW sc m_X10_swap d rc rs 58 [some (.ref r0), some (.int l1), some (.int l2), some (.int 0), none] [] h P) : SW sc m_X10_swap d rc rs 56 [some (.ref r0), some (.int l1), some (.int l2), none, none] [] h P := by
  refine sw_iconst (v := 0) dX10_swap_56 (by decide) ?_
  refine sw_istore_n dX10_swap_57 (by decide) rfl ?_
  show SW sc m_X10_swap _ _ _ 58 [some (.ref r0), some (.int l1), some (.int l2), some (.int 0), none] [] h P
  exact (k)
theorem b_X10_swap_58 {r0 : Nat} {l1 : Int32} {l2 : Int32} {l3 : Int32} {fs3 : List Value} {x3 : Int32} (hc3 : (h)[r0]? = some (10, fs3)) (hv3 : fs3[6]? = some (.int x3)) (kt : x3 ≤ l3 → SW sc m_X10_swap d rc rs 121 [some (.ref r0), none, none, none, none] [] h P) (kf : ¬ (x3 ≤ l3) → SW sc m_X10_swap d rc rs 66 [some (.ref r0), some (.int l1), some (.int l2), some (.int l3), none] [] h P) : SW sc m_X10_swap d rc rs 58 [some (.ref r0), some (.int l1), some (.int l2), some (.int l3), none] [] h P := by
  refine sw_iload_n dX10_swap_58 rfl ?_
  refine sw_aload_n dX10_swap_59 rfl ?_
  refine sw_getf dX10_swap_60 lf_X10_35 hc3 hv3 ?_
  exact sw_icmp_ge dX10_swap_63 (by decide) (fun q => (sw_fg [false, true, true, true, false] rfl (kt q))) (fun q => (kf q))
theorem b_X10_swap_66 {r0 : Nat} {l1 : Int32} {l2 : Int32} {l3 : Int32} (k : SW sc m_X10_swap d rc rs 69 [some (.ref r0), some (.int l1), some (.int l2), some (.int l3), some (.int 0)] [] h P) : SW sc m_X10_swap d rc rs 66 [some (.ref r0), some (.int l1), some (.int l2), some (.int l3), none] [] h P := by
  refine sw_iconst (v := 0) dX10_swap_66 (by decide) ?_
  refine sw_istore dX10_swap_67 (by decide) rfl ?_
  show SW sc m_X10_swap _ _ _ 69 [some (.ref r0), some (.int l1), some (.int l2), some (.int l3), some (.int 0)] [] h P
  exact (k)
theorem b_X10_swap_69 {r0 : Nat} {l1 : Int32} {l2 : Int32} {l3 : Int32} {l4 : Int32} (kt : l3 ≤ l4 → SW sc m_X10_swap d rc rs 115 [some (.ref r0), some (.int l1), some (.int l2), some (.int l3), none] [] h P) (kf : ¬ (l3 ≤ l4) → SW sc m_X10_swap d rc rs 75 [some (.ref r0), some (.int l1), some (.int l2), some (.int l3), some (.int l4)] [] h P) : SW sc m_X10_swap d rc rs 69 [some (.ref r0), some (.int l1), some (.int l2), some (.int l3), some (.int l4)] [] h P := by
  refine sw_iload dX10_swap_69 rfl ?_
  refine sw_iload_n dX10_swap_71 rfl ?_
  exact sw_icmp_ge dX10_swap_72 (by decide) (fun q => (sw_fg [false, false, false, false, true] rfl (kt q))) (fun q => (kf q))
theorem b_X10_swap_75 {r0 : Nat} {l1 : Int32} {l2 : Int32} {l3 : Int32} {l4 : Int32} {fs2 : List Value} {a2 : Nat} {vs4 : List Value} {x4 : Int32} {v6 : Int32} {g6 : ab_H} (hc2 : (h)[r0]? = some (10, fs2)) (hv2 : fs2[1]? = some (.ref a2)) (hc4 : (h)[a2]? = some (100, vs4)) (ho4 : ¬ l3 < 0) (hi4 : vs4[l3.toNatClampNeg]? = some (.int x4)) (hm6 : MSE m_X10_has d [.int x4, .int l4] h (some (.int v6)) g6) (kt : v6 = 0 → SW sc m_X10_swap (d + 1) rc rs 109 [some (.ref r0), some (.int l1), some (.int l2), some (.int l3), some (.int l4)] [] g6 P) (kf : ¬ (v6 = 0) → SW sc m_X10_swap (d + 1) rc rs 89 [some (.ref r0), some (.int l1), some (.int l2), some (.int l3), some (.int l4)] [] g6 P) : SW sc m_X10_swap (d + 1) rc rs 75 [some (.ref r0), some (.int l1), some (.int l2), some (.int l3), some (.int l4)] [] h P := by
  refine sw_aload_n dX10_swap_75 rfl ?_
  refine sw_getf dX10_swap_76 lf_X10_19 hc2 hv2 ?_
  refine sw_iload_n dX10_swap_79 rfl ?_
  refine sw_iald dX10_swap_80 hc4 ho4 hi4 ?_
  refine sw_iload dX10_swap_81 rfl ?_
  refine sw_cS (M := m_X10_swap) dX10_swap_83 ls_X10_70 hm6 rfl rfl (Nat.le_of_ble_eq_true rfl) (fun _ _ => rfl) rfl ?_
  show SW sc m_X10_swap _ _ _ 86 [some (.ref r0), some (.int l1), some (.int l2), some (.int l3), some (.int l4)] [.int v6] g6 P
  exact sw_if_eq dX10_swap_86 (by decide) (fun q => (kt q)) (fun q => (kf q))
theorem b_X10_swap_89 {r0 : Nat} {l1 : Int32} {l2 : Int32} {l3 : Int32} {l4 : Int32} {fs2 : List Value} {a2 : Nat} {v6 : Int32} {g6 : ab_H} {v10 : Int32} {g10 : ab_H} {g11 : ab_H} (hc2 : (h)[r0]? = some (10, fs2)) (hv2 : fs2[2]? = some (.ref a2)) (hm6 : MSE m_X10_exchanged d [.int l3, .int l1, .int l2] h (some (.int v6)) g6) (hm10 : MSE m_X10_exchanged d [.int l4, .int l1, .int l2] g6 (some (.int v10)) g10) (hm11 : MSE m_X10_joins d [.ref a2, .int v6, .int v10] g10 none g11) (k : SW sc m_X10_swap (d + 1) rc rs 109 [some (.ref r0), some (.int l1), some (.int l2), some (.int l3), some (.int l4)] [] g11 P) : SW sc m_X10_swap (d + 1) rc rs 89 [some (.ref r0), some (.int l1), some (.int l2), some (.int l3), some (.int l4)] [] h P := by
  refine sw_aload_n dX10_swap_89 rfl ?_
  refine sw_getf dX10_swap_90 lf_X10_23 hc2 hv2 ?_
  refine sw_iload_n dX10_swap_93 rfl ?_
  refine sw_iload_n dX10_swap_94 rfl ?_
  refine sw_iload_n dX10_swap_95 rfl ?_
  refine sw_cS (M := m_X10_swap) dX10_swap_96 ls_X10_353 hm6 rfl rfl (Nat.le_of_ble_eq_true rfl) (fun _ _ => rfl) rfl ?_
  show SW sc m_X10_swap _ _ _ 99 [some (.ref r0), some (.int l1), some (.int l2), some (.int l3), some (.int l4)] [.int v6, .ref a2] g6 P
  refine sw_iload dX10_swap_99 rfl ?_
  refine sw_iload_n dX10_swap_101 rfl ?_
  refine sw_iload_n dX10_swap_102 rfl ?_
  refine sw_cS (M := m_X10_swap) dX10_swap_103 ls_X10_353 hm10 rfl rfl (Nat.le_of_ble_eq_true rfl) (fun _ _ => rfl) rfl ?_
  show SW sc m_X10_swap _ _ _ 106 [some (.ref r0), some (.int l1), some (.int l2), some (.int l3), some (.int l4)] [.int v10, .int v6, .ref a2] g10 P
  refine sw_cS (M := m_X10_swap) dX10_swap_106 ls_X10_205 hm11 rfl rfl (Nat.le_of_ble_eq_true rfl) (fun _ _ => rfl) rfl ?_
  show SW sc m_X10_swap _ _ _ 109 [some (.ref r0), some (.int l1), some (.int l2), some (.int l3), some (.int l4)] [] g11 P
  exact (k)
theorem b_X10_swap_109 {r0 : Nat} {l1 : Int32} {l2 : Int32} {l3 : Int32} {l4 : Int32} (k : SW sc m_X10_swap d rc rs 69 [some (.ref r0), some (.int l1), some (.int l2), some (.int l3), some (.int (l4 + 1))] [] h P) : SW sc m_X10_swap d rc rs 109 [some (.ref r0), some (.int l1), some (.int l2), some (.int l3), some (.int l4)] [] h P := by
  refine sw_iinc (v := l4 + 1) dX10_swap_109 rfl rfl (by decide) rfl ?_
  show SW sc m_X10_swap _ _ _ 112 [some (.ref r0), some (.int l1), some (.int l2), some (.int l3), some (.int (l4 + 1))] [] h P
  exact sw_goto dX10_swap_112 (by decide) (k)
theorem b_X10_swap_115 {r0 : Nat} {l1 : Int32} {l2 : Int32} {l3 : Int32} (k : SW sc m_X10_swap d rc rs 58 [some (.ref r0), some (.int l1), some (.int l2), some (.int (l3 + 1)), none] [] h P) : SW sc m_X10_swap d rc rs 115 [some (.ref r0), some (.int l1), some (.int l2), some (.int l3), none] [] h P := by
  refine sw_iinc (v := l3 + 1) dX10_swap_115 rfl rfl (by decide) rfl ?_
  show SW sc m_X10_swap _ _ _ 118 [some (.ref r0), some (.int l1), some (.int l2), some (.int (l3 + 1)), none] [] h P
  exact sw_goto dX10_swap_118 (by decide) (k)
theorem b_X10_swap_121 {r0 : Nat} {v2 : Int32} {g2 : ab_H} {fs2 : List Value} (hr2 : (h)[r0]? = some (10, fs2)) (hm2 : MSE m_X10_comes d [.ref r0] h (some (.int v2)) g2) (hP : P (.inl (some (.int v2))) g2) : SW sc m_X10_swap (d + 1) rc rs 121 [some (.ref r0), none, none, none, none] [] h P := by
  refine sw_aload_n dX10_swap_121 rfl ?_
  refine sw_cV (M := m_X10_swap) dX10_swap_122 lv_X10_356 hm2 hr2 rfl (by decide) rfl rfl rfl (Nat.le_of_ble_eq_true rfl) (fun _ _ => rfl) rfl ?_
  show SW sc m_X10_swap _ _ _ 125 [some (.ref r0), none, none, none, none] [.int v2] g2 P
  exact sw_ret (v := (some (.int v2))) dX10_swap_125 rt_i hP
theorem b_X10_setWeight_0 {r0 : Nat} {l1 : Int32} {l2 : Int32} {v3 : Int32} {g3 : ab_H} {fs3 : List Value} (hr3 : (h)[r0]? = some (10, fs3)) (hm3 : MSE m_X10_isVertex d [.ref r0, .int l1] h (some (.int v3)) g3) (kt : ¬ v3 = 0 → SW sc m_X10_setWeight (d + 1) rc rs 15 [some (.ref r0), some (.int l1), some (.int l2), some (.int v3), none] [.ref r0] g3 P) (kf : v3 = 0 → SW sc m_X10_setWeight (d + 1) rc rs 11 [some (.ref r0), some (.int l1), some (.int l2), some (.int v3), none] [.ref r0] g3 P) : SW sc m_X10_setWeight (d + 1) rc rs 0 [some (.ref r0), some (.int l1), some (.int l2), none, none] [] h P := by
  refine sw_aload_n dX10_setWeight_0 rfl ?_
  refine sw_iload_n dX10_setWeight_1 rfl ?_
  refine sw_cV (M := m_X10_setWeight) dX10_setWeight_2 lv_X10_283 hm3 hr3 rfl (by decide) rfl rfl rfl (Nat.le_of_ble_eq_true rfl) (fun _ _ => rfl) rfl ?_
  show SW sc m_X10_setWeight _ _ _ 5 [some (.ref r0), some (.int l1), some (.int l2), none, none] [.int v3] g3 P
  refine sw_istore_n dX10_setWeight_5 (by decide) rfl ?_
  show SW sc m_X10_setWeight _ _ _ 6 [some (.ref r0), some (.int l1), some (.int l2), some (.int v3), none] [] g3 P
  refine sw_aload_n dX10_setWeight_6 rfl ?_
  refine sw_iload_n dX10_setWeight_7 rfl ?_
  exact sw_if_ne dX10_setWeight_8 (by decide) (fun q => (kt q)) (fun q => (kf q))
theorem b_X10_setWeight_11 {r0 : Nat} {l1 : Int32} {l2 : Int32} {l3 : Int32} {q0 : Nat} (k : SW sc m_X10_setWeight d rc rs 16 [some (.ref r0), some (.int l1), some (.int l2), some (.int l3), none] [.int 1, .ref q0] h P) : SW sc m_X10_setWeight d rc rs 11 [some (.ref r0), some (.int l1), some (.int l2), some (.int l3), none] [.ref q0] h P := by
  refine sw_iconst (v := 1) dX10_setWeight_11 (by decide) ?_
  exact sw_goto dX10_setWeight_12 (by decide) (k)
theorem b_X10_setWeight_15 {r0 : Nat} {l1 : Int32} {l2 : Int32} {l3 : Int32} {q0 : Nat} (k : SW sc m_X10_setWeight d rc rs 16 [some (.ref r0), some (.int l1), some (.int l2), some (.int l3), none] [.int 0, .ref q0] h P) : SW sc m_X10_setWeight d rc rs 15 [some (.ref r0), some (.int l1), some (.int l2), some (.int l3), none] [.ref q0] h P := by
  refine sw_iconst (v := 0) dX10_setWeight_15 (by decide) ?_
  exact (k)
theorem b_X10_setWeight_16 {r0 : Nat} {l1 : Int32} {l2 : Int32} {l3 : Int32} {q0 : Nat} {s1 : Int32} (kt : l3 = 0 → SW sc m_X10_setWeight d rc rs 34 [some (.ref r0), some (.int l1), some (.int l2), none, none] [.int s1, .ref q0] h P) (kf : ¬ (l3 = 0) → SW sc m_X10_setWeight d rc rs 20 [some (.ref r0), some (.int l1), some (.int l2), none, none] [.int s1, .ref q0] h P) : SW sc m_X10_setWeight d rc rs 16 [some (.ref r0), some (.int l1), some (.int l2), some (.int l3), none] [.int s1, .ref q0] h P := by
  refine sw_iload_n dX10_setWeight_16 rfl ?_
  exact sw_if_eq dX10_setWeight_17 (by decide) (fun q => (sw_fg [false, false, false, true, false] rfl (kt q))) (fun q => (sw_fg [false, false, false, true, false] rfl (kf q)))
theorem b_X10_setWeight_20 {r0 : Nat} {l1 : Int32} {l2 : Int32} {q0 : Nat} {s1 : Int32} {v4 : Int32} {g4 : ab_H} (hm4 : MSE m_X10_isIn d [.int l2, .int 0, .int 99] h (some (.int v4)) g4) (kt : ¬ v4 = 0 → SW sc m_X10_setWeight (d + 1) rc rs 34 [some (.ref r0), some (.int l1), some (.int l2), none, none] [.int s1, .ref q0] g4 P) (kf : v4 = 0 → SW sc m_X10_setWeight (d + 1) rc rs 30 [some (.ref r0), some (.int l1), some (.int l2), none, none] [.int s1, .ref q0] g4 P) : SW sc m_X10_setWeight (d + 1) rc rs 20 [some (.ref r0), some (.int l1), some (.int l2), none, none] [.int s1, .ref q0] h P := by
  refine sw_iload_n dX10_setWeight_20 rfl ?_
  refine sw_iconst (v := 0) dX10_setWeight_21 (by decide) ?_
  refine sw_bipush (v := 99) dX10_setWeight_22 (by decide) ?_
  refine sw_cS (M := m_X10_setWeight) dX10_setWeight_24 ls_X10_153 hm4 rfl rfl (Nat.le_of_ble_eq_true rfl) (fun _ _ => rfl) rfl ?_
  show SW sc m_X10_setWeight _ _ _ 27 [some (.ref r0), some (.int l1), some (.int l2), none, none] [.int v4, .int s1, .ref q0] g4 P
  exact sw_if_ne dX10_setWeight_27 (by decide) (fun q => (kt q)) (fun q => (kf q))
theorem b_X10_setWeight_30 {r0 : Nat} {l1 : Int32} {l2 : Int32} {q0 : Nat} {s1 : Int32} (k : SW sc m_X10_setWeight d rc rs 35 [some (.ref r0), some (.int l1), some (.int l2), none, none] [.int 1, .int s1, .ref q0] h P) : SW sc m_X10_setWeight d rc rs 30 [some (.ref r0), some (.int l1), some (.int l2), none, none] [.int s1, .ref q0] h P := by
  refine sw_iconst (v := 1) dX10_setWeight_30 (by decide) ?_
  exact sw_goto dX10_setWeight_31 (by decide) (k)
theorem b_X10_setWeight_34 {r0 : Nat} {l1 : Int32} {l2 : Int32} {q0 : Nat} {s1 : Int32} (k : SW sc m_X10_setWeight d rc rs 35 [some (.ref r0), some (.int l1), some (.int l2), none, none] [.int 0, .int s1, .ref q0] h P) : SW sc m_X10_setWeight d rc rs 34 [some (.ref r0), some (.int l1), some (.int l2), none, none] [.int s1, .ref q0] h P := by
  refine sw_iconst (v := 0) dX10_setWeight_34 (by decide) ?_
  exact (k)
theorem b_X10_setWeight_35 {r0 : Nat} {l1 : Int32} {l2 : Int32} {q0 : Nat} {s1 : Int32} {s2 : Int32} {v1 : Int32} {g1 : ab_H} {fs1 : List Value} (hr1 : (h)[q0]? = some (10, fs1)) (hm1 : MSE m_X10_fails d [.ref q0, .int s1, .int s2] h (some (.int v1)) g1) (kt : v1 = 0 → SW sc m_X10_setWeight (d + 1) rc rs 43 [some (.ref r0), some (.int l1), some (.int l2), none, none] [] g1 P) (kf : ¬ (v1 = 0) → SW sc m_X10_setWeight (d + 1) rc rs 41 [none, none, none, none, none] [] g1 P) : SW sc m_X10_setWeight (d + 1) rc rs 35 [some (.ref r0), some (.int l1), some (.int l2), none, none] [.int s2, .int s1, .ref q0] h P := by
  refine sw_cV (M := m_X10_setWeight) dX10_setWeight_35 lv_X10_286 hm1 hr1 rfl (by decide) rfl rfl rfl (Nat.le_of_ble_eq_true rfl) (fun _ _ => rfl) rfl ?_
  show SW sc m_X10_setWeight _ _ _ 38 [some (.ref r0), some (.int l1), some (.int l2), none, none] [.int v1] g1 P
  exact sw_if_eq dX10_setWeight_38 (by decide) (fun q => (kt q)) (fun q => (sw_fg [true, true, true, false, false] rfl (kf q)))
theorem b_X10_setWeight_41  (hP : P (.inl (some (.int 0))) h) : SW sc m_X10_setWeight d rc rs 41 [none, none, none, none, none] [] h P := by
  refine sw_iconst (v := 0) dX10_setWeight_41 (by decide) ?_
  exact sw_ret (v := (some (.int 0))) dX10_setWeight_42 rt_i hP
theorem b_X10_setWeight_43 {r0 : Nat} {l1 : Int32} {l2 : Int32} {g2 : ab_H} {fs2 : List Value} {fs4 : List Value} {a4 : Nat} {vs8 : List Value} {x8 : Int32} {fs11 : List Value} {a11 : Nat} {vs16 : List Value} (hr2 : (h)[r0]? = some (10, fs2)) (hm2 : MSE m_X10_remembers d [.ref r0] h none g2) (hc4 : (g2)[r0]? = some (10, fs4)) (hv4 : fs4[1]? = some (.ref a4)) (hc8 : (g2)[a4]? = some (100, vs8)) (ho8 : ¬ (10 + l1) < 0) (hi8 : vs8[(10 + l1).toNatClampNeg]? = some (.int x8)) (hc11 : (g2)[r0]? = some (10, fs11)) (hv11 : fs11[1]? = some (.ref a11)) (hc16 : (g2)[a11]? = some (100, vs16)) (ho16 : ¬ (10 + l1) < 0) (hl16 : (10 + l1).toNatClampNeg < vs16.length) (hP : P (.inl (some (.int x8))) ((g2).set a11 (100, vs16.set (10 + l1).toNatClampNeg (.int l2)))) : SW sc m_X10_setWeight (d + 1) rc rs 43 [some (.ref r0), some (.int l1), some (.int l2), none, none] [] h P := by
  refine sw_aload_n dX10_setWeight_43 rfl ?_
  refine sw_cV (M := m_X10_setWeight) dX10_setWeight_44 lv_X10_350 hm2 hr2 rfl (by decide) rfl rfl rfl (Nat.le_of_ble_eq_true rfl) (fun _ _ => rfl) rfl ?_
  show SW sc m_X10_setWeight _ _ _ 47 [some (.ref r0), some (.int l1), some (.int l2), none, none] [] g2 P
  refine sw_aload_n dX10_setWeight_47 rfl ?_
  refine sw_getf dX10_setWeight_48 lf_X10_19 hc4 hv4 ?_
  refine sw_bipush (v := 10) dX10_setWeight_51 (by decide) ?_
  refine sw_iload_n dX10_setWeight_53 rfl ?_
  refine sw_iadd dX10_setWeight_54 ?_
  refine sw_iald dX10_setWeight_55 hc8 ho8 hi8 ?_
  refine sw_istore dX10_setWeight_56 (by decide) rfl ?_
  show SW sc m_X10_setWeight _ _ _ 58 [some (.ref r0), some (.int l1), some (.int l2), none, some (.int x8)] [] g2 P
  refine sw_aload_n dX10_setWeight_58 rfl ?_
  refine sw_getf dX10_setWeight_59 lf_X10_19 hc11 hv11 ?_
  refine sw_bipush (v := 10) dX10_setWeight_62 (by decide) ?_
  refine sw_iload_n dX10_setWeight_64 rfl ?_
  refine sw_iadd dX10_setWeight_65 ?_
  refine sw_iload_n dX10_setWeight_66 rfl ?_
  refine sw_iast dX10_setWeight_67 hc16 ho16 hl16 ?_
  refine sw_iload dX10_setWeight_68 rfl ?_
  exact sw_ret (v := (some (.int x8))) dX10_setWeight_70 rt_i hP
theorem b_X10_becomes_0 {r0 : Nat} {l1 : Int32} {g2 : ab_H} {fs2 : List Value} {fs4 : List Value} {a4 : Nat} {vs7 : List Value} {x7 : Int32} {vs10 : List Value} {fs14 : List Value} {x14 : Int32} {g15 : ab_H} {fs15 : List Value} {fs18 : List Value} {x18 : Int32} {g19 : ab_H} {fs19 : List Value} {v21 : Int32} {g21 : ab_H} {fs21 : List Value} (hr2 : (h)[r0]? = some (10, fs2)) (hm2 : MSE m_X10_remembers d [.ref r0] h none g2) (hc4 : (g2)[r0]? = some (10, fs4)) (hv4 : fs4[5]? = some (.ref a4)) (hc7 : (g2)[a4]? = some (100, vs7)) (ho7 : ¬ (4 : Int32) < 0) (hi7 : vs7[(4 : Int32).toNatClampNeg]? = some (.int x7)) (hc10 : (g2)[a4]? = some (100, vs10)) (ho10 : ¬ (4 : Int32) < 0) (hl10 : (4 : Int32).toNatClampNeg < vs10.length) (hc14 : ((g2).set a4 (100, vs10.set (4 : Int32).toNatClampNeg (.int (x7 + 1))))[r0]? = some (10, fs14)) (hv14 : fs14[6]? = some (.int x14)) (hr15 : ((g2).set a4 (100, vs10.set (4 : Int32).toNatClampNeg (.int (x7 + 1))))[r0]? = some (10, fs15)) (hm15 : MSE m_X10_decodes d [.ref r0, .int l1, .int x14] ((g2).set a4 (100, vs10.set (4 : Int32).toNatClampNeg (.int (x7 + 1)))) none g15) (hc18 : (g15)[r0]? = some (10, fs18)) (hv18 : fs18[6]? = some (.int x18)) (hr19 : (g15)[r0]? = some (10, fs19)) (hm19 : MSE m_X10_grows d [.ref r0, .int x18] g15 none g19) (hr21 : (g19)[r0]? = some (10, fs21)) (hm21 : MSE m_X10_comes d [.ref r0] g19 (some (.int v21)) g21) (hP : P (.inl (some (.int v21))) g21) : SW sc m_X10_becomes (d + 1) rc rs 0 [some (.ref r0), some (.int l1)] [] h P := by
  refine sw_aload_n dX10_becomes_0 rfl ?_
  refine sw_cV (M := m_X10_becomes) dX10_becomes_1 lv_X10_350 hm2 hr2 rfl (by decide) rfl rfl rfl (Nat.le_of_ble_eq_true rfl) (fun _ _ => rfl) rfl ?_
  show SW sc m_X10_becomes _ _ _ 4 [some (.ref r0), some (.int l1)] [] g2 P
  refine sw_aload_n dX10_becomes_4 rfl ?_
  refine sw_getf dX10_becomes_5 lf_X10_32 hc4 hv4 ?_
  refine sw_iconst (v := 4) dX10_becomes_8 (by decide) ?_
  refine sw_dup2 dX10_becomes_9 (fun _ _ => rfl) (fun _ _ => rfl) ?_
  refine sw_iald dX10_becomes_10 hc7 ho7 hi7 ?_
  refine sw_iconst (v := 1) dX10_becomes_11 (by decide) ?_
  refine sw_iadd dX10_becomes_12 ?_
  refine sw_iast dX10_becomes_13 hc10 ho10 hl10 ?_
  refine sw_aload_n dX10_becomes_14 rfl ?_
  refine sw_iload_n dX10_becomes_15 rfl ?_
  refine sw_aload_n dX10_becomes_16 rfl ?_
  refine sw_getf dX10_becomes_17 lf_X10_35 hc14 hv14 ?_
  refine sw_cV (M := m_X10_becomes) dX10_becomes_20 lv_X10_343 hm15 hr15 rfl (by decide) rfl rfl rfl (Nat.le_of_ble_eq_true rfl) (fun _ _ => rfl) rfl ?_
  show SW sc m_X10_becomes _ _ _ 23 [some (.ref r0), some (.int l1)] [] g15 P
  refine sw_aload_n dX10_becomes_23 rfl ?_
  refine sw_aload_n dX10_becomes_24 rfl ?_
  refine sw_getf dX10_becomes_25 lf_X10_35 hc18 hv18 ?_
  refine sw_cV (M := m_X10_becomes) dX10_becomes_28 lv_X10_225 hm19 hr19 rfl (by decide) rfl rfl rfl (Nat.le_of_ble_eq_true rfl) (fun _ _ => rfl) rfl ?_
  show SW sc m_X10_becomes _ _ _ 31 [some (.ref r0), some (.int l1)] [] g19 P
  refine sw_aload_n dX10_becomes_31 rfl ?_
  refine sw_cV (M := m_X10_becomes) dX10_becomes_32 lv_X10_356 hm21 hr21 rfl (by decide) rfl rfl rfl (Nat.le_of_ble_eq_true rfl) (fun _ _ => rfl) rfl ?_
  show SW sc m_X10_becomes _ _ _ 35 [some (.ref r0), some (.int l1)] [.int v21] g21 P
  exact sw_ret (v := (some (.int v21))) dX10_becomes_35 rt_i hP
theorem b_X10_fromRank_0 {r0 : Nat} {l1 : Int32} {fs5 : List Value} {x5 : Int32} {v6 : Int32} {g6 : ab_H} {v9 : Int32} {g9 : ab_H} (hc5 : (h)[r0]? = some (10, fs5)) (hv5 : fs5[6]? = some (.int x5)) (hm6 : MSE m_X10_ranks d [.int x5] h (some (.int v6)) g6) (hm9 : MSE m_X10_isIn d [.int l1, .int 0, .int (v6 - 1)] g6 (some (.int v9)) g9) (kt : ¬ v9 = 0 → SW sc m_X10_fromRank (d + 1) rc rs 22 [some (.ref r0), some (.int l1)] [.ref r0] g9 P) (kf : v9 = 0 → SW sc m_X10_fromRank (d + 1) rc rs 18 [some (.ref r0), some (.int l1)] [.ref r0] g9 P) : SW sc m_X10_fromRank (d + 1) rc rs 0 [some (.ref r0), some (.int l1)] [] h P := by
  refine sw_aload_n dX10_fromRank_0 rfl ?_
  refine sw_iload_n dX10_fromRank_1 rfl ?_
  refine sw_iconst (v := 0) dX10_fromRank_2 (by decide) ?_
  refine sw_aload_n dX10_fromRank_3 rfl ?_
  refine sw_getf dX10_fromRank_4 lf_X10_35 hc5 hv5 ?_
  refine sw_cS (M := m_X10_fromRank) dX10_fromRank_7 ls_X10_340 hm6 rfl rfl (Nat.le_of_ble_eq_true rfl) (fun _ _ => rfl) rfl ?_
  show SW sc m_X10_fromRank _ _ _ 10 [some (.ref r0), some (.int l1)] [.int v6, .int 0, .int l1, .ref r0] g6 P
  refine sw_iconst (v := 1) dX10_fromRank_10 (by decide) ?_
  refine sw_isub dX10_fromRank_11 ?_
  refine sw_cS (M := m_X10_fromRank) dX10_fromRank_12 ls_X10_153 hm9 rfl rfl (Nat.le_of_ble_eq_true rfl) (fun _ _ => rfl) rfl ?_
  show SW sc m_X10_fromRank _ _ _ 15 [some (.ref r0), some (.int l1)] [.int v9, .ref r0] g9 P
  exact sw_if_ne dX10_fromRank_15 (by decide) (fun q => (kt q)) (fun q => (kf q))
theorem b_X10_fromRank_18 {r0 : Nat} {l1 : Int32} {q0 : Nat} (k : SW sc m_X10_fromRank d rc rs 23 [some (.ref r0), some (.int l1)] [.int 1, .ref q0] h P) : SW sc m_X10_fromRank d rc rs 18 [some (.ref r0), some (.int l1)] [.ref q0] h P := by
  refine sw_iconst (v := 1) dX10_fromRank_18 (by decide) ?_
  exact sw_goto dX10_fromRank_19 (by decide) (k)
theorem b_X10_fromRank_22 {r0 : Nat} {l1 : Int32} {q0 : Nat} (k : SW sc m_X10_fromRank d rc rs 23 [some (.ref r0), some (.int l1)] [.int 0, .ref q0] h P) : SW sc m_X10_fromRank d rc rs 22 [some (.ref r0), some (.int l1)] [.ref q0] h P := by
  refine sw_iconst (v := 0) dX10_fromRank_22 (by decide) ?_
  exact (k)
theorem b_X10_fromRank_23 {r0 : Nat} {l1 : Int32} {q0 : Nat} {s1 : Int32} {v2 : Int32} {g2 : ab_H} {fs2 : List Value} (hr2 : (h)[q0]? = some (10, fs2)) (hm2 : MSE m_X10_fails d [.ref q0, .int s1, .int 0] h (some (.int v2)) g2) (kt : v2 = 0 → SW sc m_X10_fromRank (d + 1) rc rs 34 [some (.ref r0), some (.int l1)] [] g2 P) (kf : ¬ (v2 = 0) → SW sc m_X10_fromRank (d + 1) rc rs 30 [none, none] [] g2 P) : SW sc m_X10_fromRank (d + 1) rc rs 23 [some (.ref r0), some (.int l1)] [.int s1, .ref q0] h P := by
  refine sw_iconst (v := 0) dX10_fromRank_23 (by decide) ?_
  refine sw_cV (M := m_X10_fromRank) dX10_fromRank_24 lv_X10_286 hm2 hr2 rfl (by decide) rfl rfl rfl (Nat.le_of_ble_eq_true rfl) (fun _ _ => rfl) rfl ?_
  show SW sc m_X10_fromRank _ _ _ 27 [some (.ref r0), some (.int l1)] [.int v2] g2 P
  exact sw_if_eq dX10_fromRank_27 (by decide) (fun q => (kt q)) (fun q => (sw_fg [true, true] rfl (kf q)))
theorem b_X10_fromRank_30  (k : SW sc m_X10_fromRank d rc rs 39 [none, none] [.int 0] h P) : SW sc m_X10_fromRank d rc rs 30 [none, none] [] h P := by
  refine sw_iconst (v := 0) dX10_fromRank_30 (by decide) ?_
  exact sw_goto dX10_fromRank_31 (by decide) (k)
theorem b_X10_fromRank_34 {r0 : Nat} {l1 : Int32} {v3 : Int32} {g3 : ab_H} {fs3 : List Value} (hr3 : (h)[r0]? = some (10, fs3)) (hm3 : MSE m_X10_becomes d [.ref r0, .int l1] h (some (.int v3)) g3) (k : SW sc m_X10_fromRank (d + 1) rc rs 39 [none, none] [.int v3] g3 P) : SW sc m_X10_fromRank (d + 1) rc rs 34 [some (.ref r0), some (.int l1)] [] h P := by
  refine sw_aload_n dX10_fromRank_34 rfl ?_
  refine sw_iload_n dX10_fromRank_35 rfl ?_
  refine sw_cV (M := m_X10_fromRank) dX10_fromRank_36 lv_X10_359 hm3 hr3 rfl (by decide) rfl rfl rfl (Nat.le_of_ble_eq_true rfl) (fun _ _ => rfl) rfl ?_
  show SW sc m_X10_fromRank _ _ _ 39 [some (.ref r0), some (.int l1)] [.int v3] g3 P
  exact (sw_fg [true, true] rfl (k))
theorem b_X10_fromRank_39 {s0 : Int32} (hP : P (.inl (some (.int s0))) h) : SW sc m_X10_fromRank d rc rs 39 [none, none] [.int s0] h P := by
  exact sw_ret (v := (some (.int s0))) dX10_fromRank_39 rt_i hP
theorem b_X10_nextTree_0 {r0 : Nat} {fs3 : List Value} {v5 : Int32} {g5 : ab_H} {fs5 : List Value} (hc3 : (h)[r0]? = some (10, fs3)) (hk3 : 0 < fs3.length) (hr5 : ((h).set r0 (10, fs3.set 0 (.int 0)))[r0]? = some (10, fs5)) (hm5 : MSE m_X10_isTree d [.ref r0] ((h).set r0 (10, fs3.set 0 (.int 0))) (some (.int v5)) g5) (kt : v5 = 0 → SW sc m_X10_nextTree (d + 1) rc rs 21 [some (.ref r0), none, none] [] g5 P) (kf : ¬ (v5 = 0) → SW sc m_X10_nextTree (d + 1) rc rs 12 [some (.ref r0), none, none] [] g5 P) : SW sc m_X10_nextTree (d + 1) rc rs 0 [some (.ref r0), none, none] [] h P := by
  refine sw_aload_n dX10_nextTree_0 rfl ?_
  refine sw_iconst (v := 0) dX10_nextTree_1 (by decide) ?_
  refine sw_putf dX10_nextTree_2 lp_X10_1 hc3 hk3 (fun _ _ => ⟨rfl, rfl⟩) ?_
  refine sw_aload_n dX10_nextTree_5 rfl ?_
  refine sw_cV (M := m_X10_nextTree) dX10_nextTree_6 lv_X10_304 hm5 hr5 rfl (by decide) rfl rfl rfl (Nat.le_of_ble_eq_true rfl) (fun _ _ => rfl) rfl ?_
  show SW sc m_X10_nextTree _ _ _ 9 [some (.ref r0), none, none] [.int v5] g5 P
  exact sw_if_eq dX10_nextTree_9 (by decide) (fun q => (kt q)) (fun q => (kf q))
theorem b_X10_nextTree_12 {r0 : Nat} {v2 : Int32} {g2 : ab_H} {fs2 : List Value} (hr2 : (h)[r0]? = some (10, fs2)) (hm2 : MSE m_X10_rankNow d [.ref r0] h (some (.int v2)) g2) (k : SW sc m_X10_nextTree (d + 1) rc rs 28 [some (.ref r0), none, none] [.int (v2 + 1)] g2 P) : SW sc m_X10_nextTree (d + 1) rc rs 12 [some (.ref r0), none, none] [] h P := by
  refine sw_aload_n dX10_nextTree_12 rfl ?_
  refine sw_cV (M := m_X10_nextTree) dX10_nextTree_13 lv_X10_310 hm2 hr2 rfl (by decide) rfl rfl rfl (Nat.le_of_ble_eq_true rfl) (fun _ _ => rfl) rfl ?_
  show SW sc m_X10_nextTree _ _ _ 16 [some (.ref r0), none, none] [.int v2] g2 P
  refine sw_iconst (v := 1) dX10_nextTree_16 (by decide) ?_
  refine sw_iadd dX10_nextTree_17 ?_
  exact sw_goto dX10_nextTree_18 (by decide) (k)
theorem b_X10_nextTree_21 {r0 : Nat} {fs2 : List Value} {x2 : Int32} {v3 : Int32} {g3 : ab_H} (hc2 : (h)[r0]? = some (10, fs2)) (hv2 : fs2[6]? = some (.int x2)) (hm3 : MSE m_X10_ranks d [.int x2] h (some (.int v3)) g3) (k : SW sc m_X10_nextTree (d + 1) rc rs 28 [some (.ref r0), none, none] [.int v3] g3 P) : SW sc m_X10_nextTree (d + 1) rc rs 21 [some (.ref r0), none, none] [] h P := by
  refine sw_aload_n dX10_nextTree_21 rfl ?_
  refine sw_getf dX10_nextTree_22 lf_X10_35 hc2 hv2 ?_
  refine sw_cS (M := m_X10_nextTree) dX10_nextTree_25 ls_X10_340 hm3 rfl rfl (Nat.le_of_ble_eq_true rfl) (fun _ _ => rfl) rfl ?_
  show SW sc m_X10_nextTree _ _ _ 28 [some (.ref r0), none, none] [.int v3] g3 P
  exact (k)
theorem b_X10_nextTree_28 {r0 : Nat} {s0 : Int32} {fs4 : List Value} {x4 : Int32} {v5 : Int32} {g5 : ab_H} (hc4 : (h)[r0]? = some (10, fs4)) (hv4 : fs4[6]? = some (.int x4)) (hm5 : MSE m_X10_ranks d [.int x4] h (some (.int v5)) g5) (kt : ¬ s0 = v5 → SW sc m_X10_nextTree (d + 1) rc rs 48 [some (.ref r0), some (.int s0), none] [] g5 P) (kf : s0 = v5 → SW sc m_X10_nextTree (d + 1) rc rs 40 [some (.ref r0), none, none] [] g5 P) : SW sc m_X10_nextTree (d + 1) rc rs 28 [some (.ref r0), none, none] [.int s0] h P := by
  refine sw_istore_n dX10_nextTree_28 (by decide) rfl ?_
  show SW sc m_X10_nextTree _ _ _ 29 [some (.ref r0), some (.int s0), none] [] h P
  refine sw_iload_n dX10_nextTree_29 rfl ?_
  refine sw_aload_n dX10_nextTree_30 rfl ?_
  refine sw_getf dX10_nextTree_31 lf_X10_35 hc4 hv4 ?_
  refine sw_cS (M := m_X10_nextTree) dX10_nextTree_34 ls_X10_340 hm5 rfl rfl (Nat.le_of_ble_eq_true rfl) (fun _ _ => rfl) rfl ?_
  show SW sc m_X10_nextTree _ _ _ 37 [some (.ref r0), some (.int s0), none] [.int v5, .int s0] g5 P
  exact sw_icmp_ne dX10_nextTree_37 (by decide) (fun q => (kt q)) (fun q => (sw_fg [false, true, false] rfl (kf q)))
theorem b_X10_nextTree_40 {r0 : Nat} {v4 : Int32} {g4 : ab_H} {fs4 : List Value} (hr4 : (h)[r0]? = some (10, fs4)) (hm4 : MSE m_X10_counts d [.ref r0, .int 8, .int (-1)] h (some (.int v4)) g4) (hP : P (.inl (some (.int v4))) g4) : SW sc m_X10_nextTree (d + 1) rc rs 40 [some (.ref r0), none, none] [] h P := by
  refine sw_aload_n dX10_nextTree_40 rfl ?_
  refine sw_bipush (v := 8) dX10_nextTree_41 (by decide) ?_
  refine sw_iconst (v := (-1)) dX10_nextTree_43 (by decide) ?_
  refine sw_cV (M := m_X10_nextTree) dX10_nextTree_44 lv_X10_347 hm4 hr4 rfl (by decide) rfl rfl rfl (Nat.le_of_ble_eq_true rfl) (fun _ _ => rfl) rfl ?_
  show SW sc m_X10_nextTree _ _ _ 47 [some (.ref r0), none, none] [.int v4] g4 P
  exact sw_ret (v := (some (.int v4))) dX10_nextTree_47 rt_i hP
theorem b_X10_nextTree_48 {r0 : Nat} {l1 : Int32} {v3 : Int32} {g3 : ab_H} {fs3 : List Value} (hr3 : (h)[r0]? = some (10, fs3)) (hm3 : MSE m_X10_becomes d [.ref r0, .int l1] h (some (.int v3)) g3) (hP : P (.inl (some (.int l1))) g3) : SW sc m_X10_nextTree (d + 1) rc rs 48 [some (.ref r0), some (.int l1), none] [] h P := by
  refine sw_aload_n dX10_nextTree_48 rfl ?_
  refine sw_iload_n dX10_nextTree_49 rfl ?_
  refine sw_cV (M := m_X10_nextTree) dX10_nextTree_50 lv_X10_359 hm3 hr3 rfl (by decide) rfl rfl rfl (Nat.le_of_ble_eq_true rfl) (fun _ _ => rfl) rfl ?_
  show SW sc m_X10_nextTree _ _ _ 53 [some (.ref r0), some (.int l1), none] [.int v3] g3 P
  refine sw_istore_n dX10_nextTree_53 (by decide) rfl ?_
  show SW sc m_X10_nextTree _ _ _ 54 [some (.ref r0), some (.int l1), some (.int v3)] [] g3 P
  refine sw_iload_n dX10_nextTree_54 rfl ?_
  exact sw_ret (v := (some (.int l1))) dX10_nextTree_55 rt_i hP
theorem b_X10_keep_0 {r0 : Nat} {l1 : Int32} {v5 : Int32} {g5 : ab_H} (hm5 : MSE m_X10_isIn d [.int l1, .int 0, .int 2] h (some (.int v5)) g5) (kt : ¬ v5 = 0 → SW sc m_X10_keep (d + 1) rc rs 14 [some (.ref r0), some (.int l1), none, none] [.ref r0] g5 P) (kf : v5 = 0 → SW sc m_X10_keep (d + 1) rc rs 10 [some (.ref r0), some (.int l1), none, none] [.ref r0] g5 P) : SW sc m_X10_keep (d + 1) rc rs 0 [some (.ref r0), some (.int l1), none, none] [] h P := by
  refine sw_aload_n dX10_keep_0 rfl ?_
  refine sw_iload_n dX10_keep_1 rfl ?_
  refine sw_iconst (v := 0) dX10_keep_2 (by decide) ?_
  refine sw_iconst (v := 2) dX10_keep_3 (by decide) ?_
  refine sw_cS (M := m_X10_keep) dX10_keep_4 ls_X10_153 hm5 rfl rfl (Nat.le_of_ble_eq_true rfl) (fun _ _ => rfl) rfl ?_
  show SW sc m_X10_keep _ _ _ 7 [some (.ref r0), some (.int l1), none, none] [.int v5, .ref r0] g5 P
  exact sw_if_ne dX10_keep_7 (by decide) (fun q => (kt q)) (fun q => (kf q))
end
