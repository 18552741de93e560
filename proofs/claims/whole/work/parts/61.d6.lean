section
variable {sc : Option (List Int32)} {d rc rs : Nat} {h : ab_H} {P : ab_O → ab_H → Prop}
theorem b_X10_keep_10 {r0 : Nat} {l1 : Int32} {q0 : Nat} (k : SW sc m_X10_keep d rc rs 15 [some (.ref r0), some (.int l1), none, none] [.int 1, .ref q0] h P) : SW sc m_X10_keep d rc rs 10 [some (.ref r0), some (.int l1), none, none] [.ref q0] h P := by
  refine sw_iconst (v := 1) dX10_keep_10 (by decide) ?_
  exact sw_goto dX10_keep_11 (by decide) (k)
theorem b_X10_keep_14 {r0 : Nat} {l1 : Int32} {q0 : Nat} (k : SW sc m_X10_keep d rc rs 15 [some (.ref r0), some (.int l1), none, none] [.int 0, .ref q0] h P) : SW sc m_X10_keep d rc rs 14 [some (.ref r0), some (.int l1), none, none] [.ref q0] h P := by
  refine sw_iconst (v := 0) dX10_keep_14 (by decide) ?_
  exact (k)
theorem b_X10_keep_15 {r0 : Nat} {l1 : Int32} {q0 : Nat} {s1 : Int32} {v2 : Int32} {g2 : ab_H} {fs2 : List Value} (hr2 : (h)[q0]? = some (10, fs2)) (hm2 : MSE m_X10_fails d [.ref q0, .int s1, .int 0] h (some (.int v2)) g2) (kt : v2 = 0 → SW sc m_X10_keep (d + 1) rc rs 24 [some (.ref r0), some (.int l1), none, none] [] g2 P) (kf : ¬ (v2 = 0) → SW sc m_X10_keep (d + 1) rc rs 22 [none, none, none, none] [] g2 P) : SW sc m_X10_keep (d + 1) rc rs 15 [some (.ref r0), some (.int l1), none, none] [.int s1, .ref q0] h P := by
  refine sw_iconst (v := 0) dX10_keep_15 (by decide) ?_
  refine sw_cV (M := m_X10_keep) dX10_keep_16 lv_X10_286 hm2 hr2 rfl (by decide) rfl rfl rfl (Nat.le_of_ble_eq_true rfl) (fun _ _ => rfl) rfl ?_
  show SW sc m_X10_keep _ _ _ 19 [some (.ref r0), some (.int l1), none, none] [.int v2] g2 P
  exact sw_if_eq dX10_keep_19 (by decide) (fun q => (kt q)) (fun q => (sw_fg [true, true, false, false] rfl (kf q)))
theorem b_X10_keep_22  (hP : P (.inl (some (.int 0))) h) : SW sc m_X10_keep d rc rs 22 [none, none, none, none] [] h P := by
  refine sw_iconst (v := 0) dX10_keep_22 (by decide) ?_
  exact sw_ret (v := (some (.int 0))) dX10_keep_23 (rt_n (by decide)) hP
theorem b_X10_keep_24 {r0 : Nat} {l1 : Int32} {fs2 : List Value} {x2 : Int32} {v4 : Int32} {g4 : ab_H} {fs8 : List Value} {x8 : Int32} {fs13 : List Value} (hc2 : (h)[r0]? = some (10, fs2)) (hv2 : fs2[8]? = some (.int x2)) (hm4 : MSE m_X10_has d [.int x2, .int l1] h (some (.int v4)) g4) (hc8 : (g4)[r0]? = some (10, fs8)) (hv8 : fs8[8]? = some (.int x8)) (hc13 : (g4)[r0]? = some (10, fs13)) (hk13 : 8 < fs13.length) (k : SW sc m_X10_keep (d + 1) rc rs 47 [some (.ref r0), some (.int l1), some (.int v4), some (.int 0)] [] ((g4).set r0 (10, fs13.set 8 (.int (x8 ||| (1 <<< (l1 &&& 31)))))) P) : SW sc m_X10_keep (d + 1) rc rs 24 [some (.ref r0), some (.int l1), none, none] [] h P := by
  refine sw_aload_n dX10_keep_24 rfl ?_
  refine sw_getf dX10_keep_25 lf_X10_262 hc2 hv2 ?_
  refine sw_iload_n dX10_keep_28 rfl ?_
  refine sw_cS (M := m_X10_keep) dX10_keep_29 ls_X10_70 hm4 rfl rfl (Nat.le_of_ble_eq_true rfl) (fun _ _ => rfl) rfl ?_
  show SW sc m_X10_keep _ _ _ 32 [some (.ref r0), some (.int l1), none, none] [.int v4] g4 P
  refine sw_istore_n dX10_keep_32 (by decide) rfl ?_
  show SW sc m_X10_keep _ _ _ 33 [some (.ref r0), some (.int l1), some (.int v4), none] [] g4 P
  refine sw_aload_n dX10_keep_33 rfl ?_
  refine sw_dup dX10_keep_34 (fun _ _ => rfl) ?_
  refine sw_getf dX10_keep_35 lf_X10_262 hc8 hv8 ?_
  refine sw_iconst (v := 1) dX10_keep_38 (by decide) ?_
  refine sw_iload_n dX10_keep_39 rfl ?_
  refine sw_ishl dX10_keep_40 ?_
  refine sw_ior dX10_keep_41 ?_
  refine sw_putf dX10_keep_42 lp_X10_262 hc13 hk13 (fun _ _ => ⟨rfl, rfl⟩) ?_
  refine sw_iconst (v := 0) dX10_keep_45 (by decide) ?_
  refine sw_istore_n dX10_keep_46 (by decide) rfl ?_
  show SW sc m_X10_keep _ _ _ 47 [some (.ref r0), some (.int l1), some (.int v4), some (.int 0)] [] ((g4).set r0 (10, fs13.set 8 (.int (x8 ||| (1 <<< (l1 &&& 31)))))) P
  exact (k)
theorem b_X10_keep_47 {r0 : Nat} {l1 : Int32} {l2 : Int32} {l3 : Int32} (kt : 20 ≤ l3 → SW sc m_X10_keep d rc rs 76 [none, none, some (.int l2), none] [] h P) (kf : ¬ (20 ≤ l3) → SW sc m_X10_keep d rc rs 53 [some (.ref r0), some (.int l1), some (.int l2), some (.int l3)] [] h P) : SW sc m_X10_keep d rc rs 47 [some (.ref r0), some (.int l1), some (.int l2), some (.int l3)] [] h P := by
  refine sw_iload_n dX10_keep_47 rfl ?_
  refine sw_bipush (v := 20) dX10_keep_48 (by decide) ?_
  exact sw_icmp_ge dX10_keep_50 (by decide) (fun q => (sw_fg [true, true, false, true] rfl (kt q))) (fun q => (kf q))
theorem b_X10_keep_53 {r0 : Nat} {l1 : Int32} {l2 : Int32} {l3 : Int32} {fs2 : List Value} {a2 : Nat} {fs9 : List Value} {a9 : Nat} {vs11 : List Value} {x11 : Int32} {vs12 : List Value} (hc2 : (h)[r0]? = some (10, fs2)) (hv2 : fs2[4]? = some (.ref a2)) (hc9 : (h)[r0]? = some (10, fs9)) (hv9 : fs9[1]? = some (.ref a9)) (hc11 : (h)[a9]? = some (100, vs11)) (ho11 : ¬ l3 < 0) (hi11 : vs11[l3.toNatClampNeg]? = some (.int x11)) (hc12 : (h)[a2]? = some (100, vs12)) (ho12 : ¬ ((20 * l1) + l3) < 0) (hl12 : ((20 * l1) + l3).toNatClampNeg < vs12.length) (k : SW sc m_X10_keep d rc rs 47 [some (.ref r0), some (.int l1), some (.int l2), some (.int (l3 + 1))] [] ((h).set a2 (100, vs12.set ((20 * l1) + l3).toNatClampNeg (.int x11))) P) : SW sc m_X10_keep d rc rs 53 [some (.ref r0), some (.int l1), some (.int l2), some (.int l3)] [] h P := by
  refine sw_aload_n dX10_keep_53 rfl ?_
  refine sw_getf dX10_keep_54 lf_X10_29 hc2 hv2 ?_
  refine sw_bipush (v := 20) dX10_keep_57 (by decide) ?_
  refine sw_iload_n dX10_keep_59 rfl ?_
  refine sw_imul dX10_keep_60 ?_
  refine sw_iload_n dX10_keep_61 rfl ?_
  refine sw_iadd dX10_keep_62 ?_
  refine sw_aload_n dX10_keep_63 rfl ?_
  refine sw_getf dX10_keep_64 lf_X10_19 hc9 hv9 ?_
  refine sw_iload_n dX10_keep_67 rfl ?_
  refine sw_iald dX10_keep_68 hc11 ho11 hi11 ?_
  refine sw_iast dX10_keep_69 hc12 ho12 hl12 ?_
  refine sw_iinc (v := l3 + 1) dX10_keep_70 rfl rfl (by decide) rfl ?_
  show SW sc m_X10_keep _ _ _ 73 [some (.ref r0), some (.int l1), some (.int l2), some (.int (l3 + 1))] [] ((h).set a2 (100, vs12.set ((20 * l1) + l3).toNatClampNeg (.int x11))) P
  exact sw_goto dX10_keep_73 (by decide) (k)
theorem b_X10_keep_76 {l2 : Int32} (hz2 : narrow .boolean (.int l2) = .int l2) (hP : P (.inl (some (.int l2))) h) : SW sc m_X10_keep d rc rs 76 [none, none, some (.int l2), none] [] h P := by
  refine sw_iload_n dX10_keep_76 rfl ?_
  exact sw_ret (v := (some (.int l2))) dX10_keep_77 (rt_n hz2) hP
theorem b_X10_restore_0 {r0 : Nat} {l1 : Int32} {v5 : Int32} {g5 : ab_H} (hm5 : MSE m_X10_isIn d [.int l1, .int 0, .int 2] h (some (.int v5)) g5) (kt : ¬ v5 = 0 → SW sc m_X10_restore (d + 1) rc rs 14 [some (.ref r0), some (.int l1), none] [.ref r0] g5 P) (kf : v5 = 0 → SW sc m_X10_restore (d + 1) rc rs 10 [some (.ref r0), some (.int l1), none] [.ref r0] g5 P) : SW sc m_X10_restore (d + 1) rc rs 0 [some (.ref r0), some (.int l1), none] [] h P := by
  refine sw_aload_n dX10_restore_0 rfl ?_
  refine sw_iload_n dX10_restore_1 rfl ?_
  refine sw_iconst (v := 0) dX10_restore_2 (by decide) ?_
  refine sw_iconst (v := 2) dX10_restore_3 (by decide) ?_
  refine sw_cS (M := m_X10_restore) dX10_restore_4 ls_X10_153 hm5 rfl rfl (Nat.le_of_ble_eq_true rfl) (fun _ _ => rfl) rfl ?_
  show SW sc m_X10_restore _ _ _ 7 [some (.ref r0), some (.int l1), none] [.int v5, .ref r0] g5 P
  exact sw_if_ne dX10_restore_7 (by decide) (fun q => (kt q)) (fun q => (kf q))
theorem b_X10_restore_10 {r0 : Nat} {l1 : Int32} {q0 : Nat} (k : SW sc m_X10_restore d rc rs 15 [some (.ref r0), some (.int l1), none] [.int 1, .ref q0] h P) : SW sc m_X10_restore d rc rs 10 [some (.ref r0), some (.int l1), none] [.ref q0] h P := by
  refine sw_iconst (v := 1) dX10_restore_10 (by decide) ?_
  exact sw_goto dX10_restore_11 (by decide) (k)
theorem b_X10_restore_14 {r0 : Nat} {l1 : Int32} {q0 : Nat} (k : SW sc m_X10_restore d rc rs 15 [some (.ref r0), some (.int l1), none] [.int 0, .ref q0] h P) : SW sc m_X10_restore d rc rs 14 [some (.ref r0), some (.int l1), none] [.ref q0] h P := by
  refine sw_iconst (v := 0) dX10_restore_14 (by decide) ?_
  exact (k)
theorem b_X10_restore_15 {r0 : Nat} {l1 : Int32} {q0 : Nat} {s1 : Int32} {v2 : Int32} {g2 : ab_H} {fs2 : List Value} (hr2 : (h)[q0]? = some (10, fs2)) (hm2 : MSE m_X10_fails d [.ref q0, .int s1, .int 0] h (some (.int v2)) g2) (kt : v2 = 0 → SW sc m_X10_restore (d + 1) rc rs 24 [some (.ref r0), some (.int l1), none] [] g2 P) (kf : ¬ (v2 = 0) → SW sc m_X10_restore (d + 1) rc rs 22 [none, none, none] [] g2 P) : SW sc m_X10_restore (d + 1) rc rs 15 [some (.ref r0), some (.int l1), none] [.int s1, .ref q0] h P := by
  refine sw_iconst (v := 0) dX10_restore_15 (by decide) ?_
  refine sw_cV (M := m_X10_restore) dX10_restore_16 lv_X10_286 hm2 hr2 rfl (by decide) rfl rfl rfl (Nat.le_of_ble_eq_true rfl) (fun _ _ => rfl) rfl ?_
  show SW sc m_X10_restore _ _ _ 19 [some (.ref r0), some (.int l1), none] [.int v2] g2 P
  exact sw_if_eq dX10_restore_19 (by decide) (fun q => (kt q)) (fun q => (sw_fg [true, true, false] rfl (kf q)))
theorem b_X10_restore_22  (hP : P (.inl (some (.int 0))) h) : SW sc m_X10_restore d rc rs 22 [none, none, none] [] h P := by
  refine sw_iconst (v := 0) dX10_restore_22 (by decide) ?_
  exact sw_ret (v := (some (.int 0))) dX10_restore_23 (rt_n (by decide)) hP
theorem b_X10_restore_24 {r0 : Nat} {l1 : Int32} {fs2 : List Value} {x2 : Int32} {v4 : Int32} {g4 : ab_H} (hc2 : (h)[r0]? = some (10, fs2)) (hv2 : fs2[8]? = some (.int x2)) (hm4 : MSE m_X10_has d [.int x2, .int l1] h (some (.int v4)) g4) (kt : ¬ v4 = 0 → SW sc m_X10_restore (d + 1) rc rs 48 [some (.ref r0), some (.int l1), none] [] g4 P) (kf : v4 = 0 → SW sc m_X10_restore (d + 1) rc rs 35 [some (.ref r0), none, none] [] g4 P) : SW sc m_X10_restore (d + 1) rc rs 24 [some (.ref r0), some (.int l1), none] [] h P := by
  refine sw_aload_n dX10_restore_24 rfl ?_
  refine sw_getf dX10_restore_25 lf_X10_262 hc2 hv2 ?_
  refine sw_iload_n dX10_restore_28 rfl ?_
  refine sw_cS (M := m_X10_restore) dX10_restore_29 ls_X10_70 hm4 rfl rfl (Nat.le_of_ble_eq_true rfl) (fun _ _ => rfl) rfl ?_
  show SW sc m_X10_restore _ _ _ 32 [some (.ref r0), some (.int l1), none] [.int v4] g4 P
  exact sw_if_ne dX10_restore_32 (by decide) (fun q => (kt q)) (fun q => (sw_fg [false, true, false] rfl (kf q)))
theorem b_X10_restore_35 {r0 : Nat} {fs2 : List Value} {a2 : Nat} {vs5 : List Value} {x5 : Int32} {vs8 : List Value} (hc2 : (h)[r0]? = some (10, fs2)) (hv2 : fs2[5]? = some (.ref a2)) (hc5 : (h)[a2]? = some (100, vs5)) (ho5 : ¬ (9 : Int32) < 0) (hi5 : vs5[(9 : Int32).toNatClampNeg]? = some (.int x5)) (hc8 : (h)[a2]? = some (100, vs8)) (ho8 : ¬ (9 : Int32) < 0) (hl8 : (9 : Int32).toNatClampNeg < vs8.length) (hP : P (.inl (some (.int 0))) ((h).set a2 (100, vs8.set (9 : Int32).toNatClampNeg (.int (x5 + 1))))) : SW sc m_X10_restore d rc rs 35 [some (.ref r0), none, none] [] h P := by
  refine sw_aload_n dX10_restore_35 rfl ?_
  refine sw_getf dX10_restore_36 lf_X10_32 hc2 hv2 ?_
  refine sw_bipush (v := 9) dX10_restore_39 (by decide) ?_
  refine sw_dup2 dX10_restore_41 (fun _ _ => rfl) (fun _ _ => rfl) ?_
  refine sw_iald dX10_restore_42 hc5 ho5 hi5 ?_
  refine sw_iconst (v := 1) dX10_restore_43 (by decide) ?_
  refine sw_iadd dX10_restore_44 ?_
  refine sw_iast dX10_restore_45 hc8 ho8 hl8 ?_
  refine sw_iconst (v := 0) dX10_restore_46 (by decide) ?_
  exact sw_ret (v := (some (.int 0))) dX10_restore_47 (rt_n (by decide)) hP
theorem b_X10_restore_48 {r0 : Nat} {l1 : Int32} {g2 : ab_H} {fs2 : List Value} (hr2 : (h)[r0]? = some (10, fs2)) (hm2 : MSE m_X10_remembers d [.ref r0] h none g2) (k : SW sc m_X10_restore (d + 1) rc rs 54 [some (.ref r0), some (.int l1), some (.int 0)] [] g2 P) : SW sc m_X10_restore (d + 1) rc rs 48 [some (.ref r0), some (.int l1), none] [] h P := by
  refine sw_aload_n dX10_restore_48 rfl ?_
  refine sw_cV (M := m_X10_restore) dX10_restore_49 lv_X10_350 hm2 hr2 rfl (by decide) rfl rfl rfl (Nat.le_of_ble_eq_true rfl) (fun _ _ => rfl) rfl ?_
  show SW sc m_X10_restore _ _ _ 52 [some (.ref r0), some (.int l1), none] [] g2 P
  refine sw_iconst (v := 0) dX10_restore_52 (by decide) ?_
  refine sw_istore_n dX10_restore_53 (by decide) rfl ?_
  show SW sc m_X10_restore _ _ _ 54 [some (.ref r0), some (.int l1), some (.int 0)] [] g2 P
  exact (k)
theorem b_X10_restore_54 {r0 : Nat} {l1 : Int32} {l2 : Int32} (kt : 20 ≤ l2 → SW sc m_X10_restore d rc rs 83 [none, none, none] [] h P) (kf : ¬ (20 ≤ l2) → SW sc m_X10_restore d rc rs 60 [some (.ref r0), some (.int l1), some (.int l2)] [] h P) : SW sc m_X10_restore d rc rs 54 [some (.ref r0), some (.int l1), some (.int l2)] [] h P := by
  refine sw_iload_n dX10_restore_54 rfl ?_
  refine sw_bipush (v := 20) dX10_restore_55 (by decide) ?_
  exact sw_icmp_ge dX10_restore_57 (by decide) (fun q => (sw_fg [true, true, true] rfl (kt q))) (fun q => (kf q))
theorem b_X10_restore_60 {r0 : Nat} {l1 : Int32} {l2 : Int32} {fs2 : List Value} {a2 : Nat} {fs5 : List Value} {a5 : Nat} {vs11 : List Value} {x11 : Int32} {vs12 : List Value} (hc2 : (h)[r0]? = some (10, fs2)) (hv2 : fs2[1]? = some (.ref a2)) (hc5 : (h)[r0]? = some (10, fs5)) (hv5 : fs5[4]? = some (.ref a5)) (hc11 : (h)[a5]? = some (100, vs11)) (ho11 : ¬ ((20 * l1) + l2) < 0) (hi11 : vs11[((20 * l1) + l2).toNatClampNeg]? = some (.int x11)) (hc12 : (h)[a2]? = some (100, vs12)) (ho12 : ¬ l2 < 0) (hl12 : l2.toNatClampNeg < vs12.length) (k : SW sc m_X10_restore d rc rs 54 [some (.ref r0), some (.int l1), some (.int (l2 + 1))] [] ((h).set a2 (100, vs12.set l2.toNatClampNeg (.int x11))) P) : SW sc m_X10_restore d rc rs 60 [some (.ref r0), some (.int l1), some (.int l2)] [] h P := by
  refine sw_aload_n dX10_restore_60 rfl ?_
  refine sw_getf dX10_restore_61 lf_X10_19 hc2 hv2 ?_
  refine sw_iload_n dX10_restore_64 rfl ?_
  refine sw_aload_n dX10_restore_65 rfl ?_
  refine sw_getf dX10_restore_66 lf_X10_29 hc5 hv5 ?_
  refine sw_bipush (v := 20) dX10_restore_69 (by decide) ?_
  refine sw_iload_n dX10_restore_71 rfl ?_
  refine sw_imul dX10_restore_72 ?_
  refine sw_iload_n dX10_restore_73 rfl ?_
  refine sw_iadd dX10_restore_74 ?_
  refine sw_iald dX10_restore_75 hc11 ho11 hi11 ?_
  refine sw_iast dX10_restore_76 hc12 ho12 hl12 ?_
  refine sw_iinc (v := l2 + 1) dX10_restore_77 rfl rfl (by decide) rfl ?_
  show SW sc m_X10_restore _ _ _ 80 [some (.ref r0), some (.int l1), some (.int (l2 + 1))] [] ((h).set a2 (100, vs12.set l2.toNatClampNeg (.int x11))) P
  exact sw_goto dX10_restore_80 (by decide) (k)
theorem b_X10_restore_83  (hP : P (.inl (some (.int 1))) h) : SW sc m_X10_restore d rc rs 83 [none, none, none] [] h P := by
  refine sw_iconst (v := 1) dX10_restore_83 (by decide) ?_
  exact sw_ret (v := (some (.int 1))) dX10_restore_84 (rt_n (by decide)) hP
theorem b_X10_account_0 {r0 : Nat} {l1 : Int32} {v5 : Int32} {g5 : ab_H} (hm5 : MSE m_X10_isIn d [.int l1, .int 0, .int 9] h (some (.int v5)) g5) (kt : ¬ v5 = 0 → SW sc m_X10_account (d + 1) rc rs 15 [some (.ref r0), some (.int l1)] [.ref r0] g5 P) (kf : v5 = 0 → SW sc m_X10_account (d + 1) rc rs 11 [some (.ref r0), some (.int l1)] [.ref r0] g5 P) : SW sc m_X10_account (d + 1) rc rs 0 [some (.ref r0), some (.int l1)] [] h P := by
  refine sw_aload_n dX10_account_0 rfl ?_
  refine sw_iload_n dX10_account_1 rfl ?_
  refine sw_iconst (v := 0) dX10_account_2 (by decide) ?_
  refine sw_bipush (v := 9) dX10_account_3 (by decide) ?_
  refine sw_cS (M := m_X10_account) dX10_account_5 ls_X10_153 hm5 rfl rfl (Nat.le_of_ble_eq_true rfl) (fun _ _ => rfl) rfl ?_
  show SW sc m_X10_account _ _ _ 8 [some (.ref r0), some (.int l1)] [.int v5, .ref r0] g5 P
  exact sw_if_ne dX10_account_8 (by decide) (fun q => (kt q)) (fun q => (kf q))
theorem b_X10_account_11 {r0 : Nat} {l1 : Int32} {q0 : Nat} (k : SW sc m_X10_account d rc rs 16 [some (.ref r0), some (.int l1)] [.int 1, .ref q0] h P) : SW sc m_X10_account d rc rs 11 [some (.ref r0), some (.int l1)] [.ref q0] h P := by
  refine sw_iconst (v := 1) dX10_account_11 (by decide) ?_
  exact sw_goto dX10_account_12 (by decide) (k)
theorem b_X10_account_15 {r0 : Nat} {l1 : Int32} {q0 : Nat} (k : SW sc m_X10_account d rc rs 16 [some (.ref r0), some (.int l1)] [.int 0, .ref q0] h P) : SW sc m_X10_account d rc rs 15 [some (.ref r0), some (.int l1)] [.ref q0] h P := by
  refine sw_iconst (v := 0) dX10_account_15 (by decide) ?_
  exact (k)
theorem b_X10_account_16 {r0 : Nat} {l1 : Int32} {q0 : Nat} {s1 : Int32} {v2 : Int32} {g2 : ab_H} {fs2 : List Value} (hr2 : (h)[q0]? = some (10, fs2)) (hm2 : MSE m_X10_fails d [.ref q0, .int s1, .int 0] h (some (.int v2)) g2) (kt : v2 = 0 → SW sc m_X10_account (d + 1) rc rs 27 [some (.ref r0), some (.int l1)] [] g2 P) (kf : ¬ (v2 = 0) → SW sc m_X10_account (d + 1) rc rs 23 [none, none] [] g2 P) : SW sc m_X10_account (d + 1) rc rs 16 [some (.ref r0), some (.int l1)] [.int s1, .ref q0] h P := by
  refine sw_iconst (v := 0) dX10_account_16 (by decide) ?_
  refine sw_cV (M := m_X10_account) dX10_account_17 lv_X10_286 hm2 hr2 rfl (by decide) rfl rfl rfl (Nat.le_of_ble_eq_true rfl) (fun _ _ => rfl) rfl ?_
  show SW sc m_X10_account _ _ _ 20 [some (.ref r0), some (.int l1)] [.int v2] g2 P
  exact sw_if_eq dX10_account_20 (by decide) (fun q => (kt q)) (fun q => (sw_fg [true, true] rfl (kf q)))
theorem b_X10_account_23  (k : SW sc m_X10_account d rc rs 33 [none, none] [.int 0] h P) : SW sc m_X10_account d rc rs 23 [none, none] [] h P := by
  refine sw_iconst (v := 0) dX10_account_23 (by decide) ?_
  exact sw_goto dX10_account_24 (by decide) (k)
theorem b_X10_account_27 {r0 : Nat} {l1 : Int32} {fs2 : List Value} {a2 : Nat} {vs4 : List Value} {x4 : Int32} (hc2 : (h)[r0]? = some (10, fs2)) (hv2 : fs2[5]? = some (.ref a2)) (hc4 : (h)[a2]? = some (100, vs4)) (ho4 : ¬ l1 < 0) (hi4 : vs4[l1.toNatClampNeg]? = some (.int x4)) (k : SW sc m_X10_account d rc rs 33 [none, none] [.int x4] h P) : SW sc m_X10_account d rc rs 27 [some (.ref r0), some (.int l1)] [] h P := by
  refine sw_aload_n dX10_account_27 rfl ?_
  refine sw_getf dX10_account_28 lf_X10_32 hc2 hv2 ?_
  refine sw_iload_n dX10_account_31 rfl ?_
  refine sw_iald dX10_account_32 hc4 ho4 hi4 ?_
  exact (sw_fg [true, true] rfl (k))
theorem b_X10_account_33 {s0 : Int32} (hP : P (.inl (some (.int s0))) h) : SW sc m_X10_account d rc rs 33 [none, none] [.int s0] h P := by
  exact sw_ret (v := (some (.int s0))) dX10_account_33 rt_i hP
end
