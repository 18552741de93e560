section
variable {sc : Option (List Int32)} {d rc rs : Nat} {h : ab_H} {P : ab_O → ab_H → Prop}
theorem b_X10_sameDegrees_75 {j1 : Int64} (hP : P (.inl (some (.int j1.toInt32))) h) : SW sc m_X10_sameDegrees d rc rs 75 [none, some (.long j1), none, none] [] h P := by
  refine sw_lload_n dX10_sameDegrees_75 rfl ?_
  refine sw_l2i dX10_sameDegrees_76 ?_
  exact sw_ret (v := (some (.int j1.toInt32))) dX10_sameDegrees_77 rt_i hP
theorem b_X10_says_0 {r0 : Nat} {l1 : Int32} {fs2 : List Value} {a2 : Nat} {fs4 : List Value} {x4 : Int32} {vs6 : List Value} {fs9 : List Value} {x9 : Int32} {fs12 : List Value} (hc2 : (h)[r0]? = some (10, fs2)) (hv2 : fs2[23]? = some (.ref a2)) (hc4 : (h)[r0]? = some (10, fs4)) (hv4 : fs4[24]? = some (.int x4)) (hc6 : (h)[a2]? = some (100, vs6)) (ho6 : ¬ x4 < 0) (hl6 : x4.toNatClampNeg < vs6.length) (hc9 : ((h).set a2 (100, vs6.set x4.toNatClampNeg (.int l1)))[r0]? = some (10, fs9)) (hv9 : fs9[24]? = some (.int x9)) (hc12 : ((h).set a2 (100, vs6.set x4.toNatClampNeg (.int l1)))[r0]? = some (10, fs12)) (hk12 : 24 < fs12.length) (hP : P (.inl none) (((h).set a2 (100, vs6.set x4.toNatClampNeg (.int l1))).set r0 (10, fs12.set 24 (.int (x9 + 1))))) : SW sc m_X10_says d rc rs 0 [some (.ref r0), some (.int l1)] [] h P := by
  refine sw_aload_n dX10_says_0 rfl ?_
  refine sw_getf dX10_says_1 lf_X10_47 hc2 hv2 ?_
  refine sw_aload_n dX10_says_4 rfl ?_
  refine sw_getf dX10_says_5 lf_X10_317 hc4 hv4 ?_
  refine sw_iload_n dX10_says_8 rfl ?_
  refine sw_iast dX10_says_9 hc6 ho6 hl6 ?_
  refine sw_aload_n dX10_says_10 rfl ?_
  refine sw_dup dX10_says_11 (fun _ _ => rfl) ?_
  refine sw_getf dX10_says_12 lf_X10_317 hc9 hv9 ?_
  refine sw_iconst (v := 1) dX10_says_15 (by decide) ?_
  refine sw_iadd dX10_says_16 ?_
  refine sw_putf dX10_says_17 lp_X10_317 hc12 hk12 (fun _ _ => ⟨rfl, rfl⟩) ?_
  exact sw_ret (v := none) dX10_says_20 rt_v hP
theorem b_X10_saysWord_0 {r0 : Nat} {t1 : Nat} (ht0 : t1 < 6) (k : SW sc m_X10_saysWord d rc rs 2 [some (.ref r0), some (.retAddr t1), some (.int 0)] [] h P) : SW sc m_X10_saysWord d rc rs 0 [some (.ref r0), some (.retAddr t1), none] [] h P := by
  refine sw_iconst (v := 0) dX10_saysWord_0 (by decide) ?_
  refine sw_istore_nt (M := m_X10_saysWord) dX10_saysWord_1 (by decide) rfl rfl ht0 ?_
  show SW sc m_X10_saysWord _ _ _ 2 [some (.ref r0), some (.retAddr t1), some (.int 0)] [] h P
  exact (k)
theorem b_X10_saysWord_2 {r0 : Nat} {t1 : Nat} {l2 : Int32} {v3 : Int32} {g3 : ab_H} (ht2 : t1 < 6) (ht3 : t1 < 6) (hm3 : MSE m_J0_length_8abf5 d [.retAddr t1] h (some (.int v3)) g3) (kt : v3 ≤ l2 → SW sc m_X10_saysWord (d + 1) rc rs 25 [none, none, none] [] g3 P) (kf : ¬ (v3 ≤ l2) → SW sc m_X10_saysWord (d + 1) rc rs 10 [some (.ref r0), some (.retAddr t1), some (.int l2)] [] g3 P) : SW sc m_X10_saysWord (d + 1) rc rs 2 [some (.ref r0), some (.retAddr t1), some (.int l2)] [] h P := by
  refine sw_iload_n dX10_saysWord_2 rfl ?_
  refine sw_aload_nt dX10_saysWord_3 rfl (Or.inl ht2) ?_
  refine sw_cT (M := m_X10_saysWord) dX10_saysWord_4 lv_X10_181 rfl ht3 hm3 rfl rfl (Nat.le_of_ble_eq_true rfl) (fun _ _ => rfl) (fun σ τ v hv => by simp at hv) ?_
  show SW sc m_X10_saysWord _ _ _ 7 [some (.ref r0), some (.retAddr t1), some (.int l2)] [.int v3, .int l2] g3 P
  exact sw_icmp_ge dX10_saysWord_7 (by decide) (fun q => (sw_fg [true, true, true] rfl (kt q))) (fun q => (kf q))
theorem b_X10_saysWord_10 {r0 : Nat} {t1 : Nat} {l2 : Int32} {v4 : Int32} {g4 : ab_H} {g5 : ab_H} {fs5 : List Value} (ht0 : t1 < 6) (ht2 : t1 < 6) (ht4 : t1 < 6) (hm4 : MSE m_J0_charAt_5068e d [.retAddr t1, .int l2] h (some (.int v4)) g4) (hr5 : (g4)[r0]? = some (10, fs5)) (hm5 : MSE m_X10_says d [.ref r0, .int v4] g4 none g5) (k : SW sc m_X10_saysWord (d + 1) rc rs 2 [some (.ref r0), some (.retAddr t1), some (.int (l2 + 1))] [] g5 P) : SW sc m_X10_saysWord (d + 1) rc rs 10 [some (.ref r0), some (.retAddr t1), some (.int l2)] [] h P := by
  refine sw_aload_n dX10_saysWord_10 rfl ?_
  refine sw_aload_nt dX10_saysWord_11 rfl (Or.inl ht2) ?_
  refine sw_iload_n dX10_saysWord_12 rfl ?_
  refine sw_cT (M := m_X10_saysWord) dX10_saysWord_13 lv_X10_186 rfl ht4 hm4 rfl rfl (Nat.le_of_ble_eq_true rfl) (fun _ _ => rfl) (fun σ τ v hv => by rw [List.mem_singleton.mp hv]; rfl) ?_
  show SW sc m_X10_saysWord _ _ _ 16 [some (.ref r0), some (.retAddr t1), some (.int l2)] [.int v4, .ref r0] g4 P
  refine sw_cV (M := m_X10_saysWord) dX10_saysWord_16 lv_X10_320 hm5 hr5 rfl (by decide) rfl rfl rfl (Nat.le_of_ble_eq_true rfl) (fun _ _ => rfl) rfl ?_
  show SW sc m_X10_saysWord _ _ _ 19 [some (.ref r0), some (.retAddr t1), some (.int l2)] [] g5 P
  refine sw_iinct (M := m_X10_saysWord) (v := l2 + 1) dX10_saysWord_19 rfl rfl (by decide) rfl rfl ht0 ?_
  show SW sc m_X10_saysWord _ _ _ 22 [some (.ref r0), some (.retAddr t1), some (.int (l2 + 1))] [] g5 P
  exact sw_goto dX10_saysWord_22 (by decide) (k)
theorem b_X10_saysWord_25  (hP : P (.inl none) h) : SW sc m_X10_saysWord d rc rs 25 [none, none, none] [] h P := by
  exact sw_ret (v := none) dX10_saysWord_25 rt_v hP
theorem b_X10_saysNumber_0 {r0 : Nat} {l1 : Int32} {g3 : ab_H} {fs3 : List Value} (hr3 : (h)[r0]? = some (10, fs3)) (hm3 : MSE m_X10_says d [.ref r0, .int 32] h none g3) (kt : l1 ≤ 9 → SW sc m_X10_saysNumber (d + 1) rc rs 23 [some (.ref r0), some (.int l1)] [] g3 P) (kf : ¬ (l1 ≤ 9) → SW sc m_X10_saysNumber (d + 1) rc rs 12 [some (.ref r0), some (.int l1)] [] g3 P) : SW sc m_X10_saysNumber (d + 1) rc rs 0 [some (.ref r0), some (.int l1)] [] h P := by
  refine sw_aload_n dX10_saysNumber_0 rfl ?_
  refine sw_bipush (v := 32) dX10_saysNumber_1 (by decide) ?_
  refine sw_cV (M := m_X10_saysNumber) dX10_saysNumber_3 lv_X10_320 hm3 hr3 rfl (by decide) rfl rfl rfl (Nat.le_of_ble_eq_true rfl) (fun _ _ => rfl) rfl ?_
  show SW sc m_X10_saysNumber _ _ _ 6 [some (.ref r0), some (.int l1)] [] g3 P
  refine sw_iload_n dX10_saysNumber_6 rfl ?_
  refine sw_bipush (v := 9) dX10_saysNumber_7 (by decide) ?_
  exact sw_icmp_le dX10_saysNumber_9 (by decide) (fun q => (kt q)) (fun q => (kf q))
theorem b_X10_saysNumber_12 {r0 : Nat} {l1 : Int32} {g7 : ab_H} {fs7 : List Value} (hz5 : ¬ (10 : Int32) = 0) (hr7 : (h)[r0]? = some (10, fs7)) (hm7 : MSE m_X10_says d [.ref r0, .int (48 + (l1 / 10))] h none g7) (k : SW sc m_X10_saysNumber (d + 1) rc rs 23 [some (.ref r0), some (.int l1)] [] g7 P) : SW sc m_X10_saysNumber (d + 1) rc rs 12 [some (.ref r0), some (.int l1)] [] h P := by
  refine sw_aload_n dX10_saysNumber_12 rfl ?_
  refine sw_bipush (v := 48) dX10_saysNumber_13 (by decide) ?_
  refine sw_iload_n dX10_saysNumber_15 rfl ?_
  refine sw_bipush (v := 10) dX10_saysNumber_16 (by decide) ?_
  refine sw_idiv dX10_saysNumber_18 hz5 ?_
  refine sw_iadd dX10_saysNumber_19 ?_
  refine sw_cV (M := m_X10_saysNumber) dX10_saysNumber_20 lv_X10_320 hm7 hr7 rfl (by decide) rfl rfl rfl (Nat.le_of_ble_eq_true rfl) (fun _ _ => rfl) rfl ?_
  show SW sc m_X10_saysNumber _ _ _ 23 [some (.ref r0), some (.int l1)] [] g7 P
  exact (k)
theorem b_X10_saysNumber_23 {r0 : Nat} {l1 : Int32} {g7 : ab_H} {fs7 : List Value} (hz5 : ¬ (10 : Int32) = 0) (hr7 : (h)[r0]? = some (10, fs7)) (hm7 : MSE m_X10_says d [.ref r0, .int (48 + (l1 - l1 / 10 * 10))] h none g7) (hP : P (.inl none) g7) : SW sc m_X10_saysNumber (d + 1) rc rs 23 [some (.ref r0), some (.int l1)] [] h P := by
  refine sw_aload_n dX10_saysNumber_23 rfl ?_
  refine sw_bipush (v := 48) dX10_saysNumber_24 (by decide) ?_
  refine sw_iload_n dX10_saysNumber_26 rfl ?_
  refine sw_bipush (v := 10) dX10_saysNumber_27 (by decide) ?_
  refine sw_irem dX10_saysNumber_29 hz5 ?_
  refine sw_iadd dX10_saysNumber_30 ?_
  refine sw_cV (M := m_X10_saysNumber) dX10_saysNumber_31 lv_X10_320 hm7 hr7 rfl (by decide) rfl rfl rfl (Nat.le_of_ble_eq_true rfl) (fun _ _ => rfl) rfl ?_
  show SW sc m_X10_saysNumber _ _ _ 34 [some (.ref r0), some (.int l1)] [] g7 P
  exact sw_ret (v := none) dX10_saysNumber_34 rt_v hP
theorem b_X10_writeWord_0 {r0 : Nat} {l1 : Int32} {v4 : Int32} {g4 : ab_H} {fs4 : List Value} (hr4 : (h)[r0]? = some (10, fs4)) (hm4 : MSE m_X10_isComponent d [.ref r0, .int l1] h (some (.int v4)) g4) (kt : ¬ v4 = 0 → SW sc m_X10_writeWord (d + 1) rc rs 13 [some (.ref r0), some (.int l1), none, none] [.ref r0] g4 P) (kf : v4 = 0 → SW sc m_X10_writeWord (d + 1) rc rs 9 [some (.ref r0), some (.int l1), none, none] [.ref r0] g4 P) : SW sc m_X10_writeWord (d + 1) rc rs 0 [some (.ref r0), some (.int l1), none, none] [] h P := by
  refine sw_aload_n dX10_writeWord_0 rfl ?_
  refine sw_aload_n dX10_writeWord_1 rfl ?_
  refine sw_iload_n dX10_writeWord_2 rfl ?_
  refine sw_cV (M := m_X10_writeWord) dX10_writeWord_3 lv_X10_295 hm4 hr4 rfl (by decide) rfl rfl rfl (Nat.le_of_ble_eq_true rfl) (fun _ _ => rfl) rfl ?_
  show SW sc m_X10_writeWord _ _ _ 6 [some (.ref r0), some (.int l1), none, none] [.int v4, .ref r0] g4 P
  exact sw_if_ne dX10_writeWord_6 (by decide) (fun q => (kt q)) (fun q => (kf q))
theorem b_X10_writeWord_9 {r0 : Nat} {l1 : Int32} {q0 : Nat} (k : SW sc m_X10_writeWord d rc rs 14 [some (.ref r0), some (.int l1), none, none] [.int 1, .ref q0] h P) : SW sc m_X10_writeWord d rc rs 9 [some (.ref r0), some (.int l1), none, none] [.ref q0] h P := by
  refine sw_iconst (v := 1) dX10_writeWord_9 (by decide) ?_
  exact sw_goto dX10_writeWord_10 (by decide) (k)
theorem b_X10_writeWord_13 {r0 : Nat} {l1 : Int32} {q0 : Nat} (k : SW sc m_X10_writeWord d rc rs 14 [some (.ref r0), some (.int l1), none, none] [.int 0, .ref q0] h P) : SW sc m_X10_writeWord d rc rs 13 [some (.ref r0), some (.int l1), none, none] [.ref q0] h P := by
  refine sw_iconst (v := 0) dX10_writeWord_13 (by decide) ?_
  exact (k)
theorem b_X10_writeWord_14 {r0 : Nat} {l1 : Int32} {q0 : Nat} {s1 : Int32} {v2 : Int32} {g2 : ab_H} {fs2 : List Value} (hr2 : (h)[q0]? = some (10, fs2)) (hm2 : MSE m_X10_fails d [.ref q0, .int s1, .int 0] h (some (.int v2)) g2) (kt : v2 = 0 → SW sc m_X10_writeWord (d + 1) rc rs 23 [some (.ref r0), some (.int l1), none, none] [] g2 P) (kf : ¬ (v2 = 0) → SW sc m_X10_writeWord (d + 1) rc rs 21 [none, none, none, none] [] g2 P) : SW sc m_X10_writeWord (d + 1) rc rs 14 [some (.ref r0), some (.int l1), none, none] [.int s1, .ref q0] h P := by
  refine sw_iconst (v := 0) dX10_writeWord_14 (by decide) ?_
  refine sw_cV (M := m_X10_writeWord) dX10_writeWord_15 lv_X10_286 hm2 hr2 rfl (by decide) rfl rfl rfl (Nat.le_of_ble_eq_true rfl) (fun _ _ => rfl) rfl ?_
  show SW sc m_X10_writeWord _ _ _ 18 [some (.ref r0), some (.int l1), none, none] [.int v2] g2 P
  exact sw_if_eq dX10_writeWord_18 (by decide) (fun q => (kt q)) (fun q => (sw_fg [true, true, false, false] rfl (kf q)))
theorem b_X10_writeWord_21  (hP : P (.inl (some (.int 0))) h) : SW sc m_X10_writeWord d rc rs 21 [none, none, none, none] [] h P := by
  refine sw_iconst (v := 0) dX10_writeWord_21 (by decide) ?_
  exact sw_ret (v := (some (.int 0))) dX10_writeWord_22 rt_i hP
theorem b_X10_writeWord_23 {r0 : Nat} {l1 : Int32} {fs3 : List Value} {v7 : Int32} {g7 : ab_H} {fs7 : List Value} {v8 : Int32} {g8 : ab_H} {fs8 : List Value} {v12 : Int32} {g12 : ab_H} (hc3 : (h)[r0]? = some (10, fs3)) (hk3 : 24 < fs3.length) (hr7 : ((h).set r0 (10, fs3.set 24 (.int 0)))[r0]? = some (10, fs7)) (hm7 : MSE m_X10_componentAt d [.ref r0, .int l1] ((h).set r0 (10, fs3.set 24 (.int 0))) (some (.int v7)) g7) (hr8 : (g7)[r0]? = some (10, fs8)) (hm8 : MSE m_X10_wordOfSet d [.ref r0, .int v7] g7 (some (.int v8)) g8) (hm12 : MSE m_X10_ones d [.int v8] g8 (some (.int v12)) g12) (k : SW sc m_X10_writeWord (d + 1) rc rs 47 [some (.ref r0), none, some (.int v8), some (.int ((2 * v12) - 1))] [] g12 P) : SW sc m_X10_writeWord (d + 1) rc rs 23 [some (.ref r0), some (.int l1), none, none] [] h P := by
  refine sw_aload_n dX10_writeWord_23 rfl ?_
  refine sw_iconst (v := 0) dX10_writeWord_24 (by decide) ?_
  refine sw_putf dX10_writeWord_25 lp_X10_317 hc3 hk3 (fun _ _ => ⟨rfl, rfl⟩) ?_
  refine sw_aload_n dX10_writeWord_28 rfl ?_
  refine sw_aload_n dX10_writeWord_29 rfl ?_
  refine sw_iload_n dX10_writeWord_30 rfl ?_
  refine sw_cV (M := m_X10_writeWord) dX10_writeWord_31 lv_X10_133 hm7 hr7 rfl (by decide) rfl rfl rfl (Nat.le_of_ble_eq_true rfl) (fun _ _ => rfl) rfl ?_
  show SW sc m_X10_writeWord _ _ _ 34 [some (.ref r0), some (.int l1), none, none] [.int v7, .ref r0] g7 P
  refine sw_cV (M := m_X10_writeWord) dX10_writeWord_34 lv_X10_136 hm8 hr8 rfl (by decide) rfl rfl rfl (Nat.le_of_ble_eq_true rfl) (fun _ _ => rfl) rfl ?_
  show SW sc m_X10_writeWord _ _ _ 37 [some (.ref r0), some (.int l1), none, none] [.int v8] g8 P
  refine sw_istore_n dX10_writeWord_37 (by decide) rfl ?_
  show SW sc m_X10_writeWord _ _ _ 38 [some (.ref r0), some (.int l1), some (.int v8), none] [] g8 P
  refine sw_iconst (v := 2) dX10_writeWord_38 (by decide) ?_
  refine sw_iload_n dX10_writeWord_39 rfl ?_
  refine sw_cS (M := m_X10_writeWord) dX10_writeWord_40 ls_X10_111 hm12 rfl rfl (Nat.le_of_ble_eq_true rfl) (fun _ _ => rfl) rfl ?_
  show SW sc m_X10_writeWord _ _ _ 43 [some (.ref r0), some (.int l1), some (.int v8), none] [.int v12, .int 2] g12 P
  refine sw_imul dX10_writeWord_43 ?_
  refine sw_iconst (v := 1) dX10_writeWord_44 (by decide) ?_
  refine sw_isub dX10_writeWord_45 ?_
  refine sw_istore_n dX10_writeWord_46 (by decide) rfl ?_
  show SW sc m_X10_writeWord _ _ _ 47 [some (.ref r0), some (.int l1), some (.int v8), some (.int ((2 * v12) - 1))] [] g12 P
  exact (sw_fg [false, true, false, false] rfl (k))
theorem b_X10_writeWord_47 {r0 : Nat} {l2 : Int32} {l3 : Int32} (kt : l3 < 0 → SW sc m_X10_writeWord d rc rs 76 [some (.ref r0), none, none, none] [] h P) (kf : ¬ (l3 < 0) → SW sc m_X10_writeWord d rc rs 51 [some (.ref r0), none, some (.int l2), some (.int l3)] [] h P) : SW sc m_X10_writeWord d rc rs 47 [some (.ref r0), none, some (.int l2), some (.int l3)] [] h P := by
  refine sw_iload_n dX10_writeWord_47 rfl ?_
  exact sw_if_lt dX10_writeWord_48 (by decide) (fun q => (sw_fg [false, false, true, true] rfl (kt q))) (fun q => (kf q))
theorem b_X10_writeWord_51 {r0 : Nat} {l2 : Int32} {l3 : Int32} {v4 : Int32} {g4 : ab_H} (hm4 : MSE m_X10_has d [.int l2, .int l3] h (some (.int v4)) g4) (kt : v4 = 0 → SW sc m_X10_writeWord (d + 1) rc rs 65 [some (.ref r0), none, some (.int l2), some (.int l3)] [.ref r0] g4 P) (kf : ¬ (v4 = 0) → SW sc m_X10_writeWord (d + 1) rc rs 60 [some (.ref r0), none, some (.int l2), some (.int l3)] [.ref r0] g4 P) : SW sc m_X10_writeWord (d + 1) rc rs 51 [some (.ref r0), none, some (.int l2), some (.int l3)] [] h P := by
  refine sw_aload_n dX10_writeWord_51 rfl ?_
  refine sw_iload_n dX10_writeWord_52 rfl ?_
  refine sw_iload_n dX10_writeWord_53 rfl ?_
  refine sw_cS (M := m_X10_writeWord) dX10_writeWord_54 ls_X10_70 hm4 rfl rfl (Nat.le_of_ble_eq_true rfl) (fun _ _ => rfl) rfl ?_
  show SW sc m_X10_writeWord _ _ _ 57 [some (.ref r0), none, some (.int l2), some (.int l3)] [.int v4, .ref r0] g4 P
  exact sw_if_eq dX10_writeWord_57 (by decide) (fun q => (kt q)) (fun q => (kf q))
theorem b_X10_writeWord_60 {r0 : Nat} {l2 : Int32} {l3 : Int32} {q0 : Nat} (k : SW sc m_X10_writeWord d rc rs 67 [some (.ref r0), none, some (.int l2), some (.int l3)] [.int 41, .ref q0] h P) : SW sc m_X10_writeWord d rc rs 60 [some (.ref r0), none, some (.int l2), some (.int l3)] [.ref q0] h P := by
  refine sw_bipush (v := 41) dX10_writeWord_60 (by decide) ?_
  exact sw_goto dX10_writeWord_62 (by decide) (k)
theorem b_X10_writeWord_65 {r0 : Nat} {l2 : Int32} {l3 : Int32} {q0 : Nat} (k : SW sc m_X10_writeWord d rc rs 67 [some (.ref r0), none, some (.int l2), some (.int l3)] [.int 40, .ref q0] h P) : SW sc m_X10_writeWord d rc rs 65 [some (.ref r0), none, some (.int l2), some (.int l3)] [.ref q0] h P := by
  refine sw_bipush (v := 40) dX10_writeWord_65 (by decide) ?_
  exact (k)
theorem b_X10_writeWord_67 {r0 : Nat} {l2 : Int32} {l3 : Int32} {q0 : Nat} {s1 : Int32} {g1 : ab_H} {fs1 : List Value} (hr1 : (h)[q0]? = some (10, fs1)) (hm1 : MSE m_X10_says d [.ref q0, .int s1] h none g1) (k : SW sc m_X10_writeWord (d + 1) rc rs 47 [some (.ref r0), none, some (.int l2), some (.int (l3 + (-1)))] [] g1 P) : SW sc m_X10_writeWord (d + 1) rc rs 67 [some (.ref r0), none, some (.int l2), some (.int l3)] [.int s1, .ref q0] h P := by
  refine sw_cV (M := m_X10_writeWord) dX10_writeWord_67 lv_X10_320 hm1 hr1 rfl (by decide) rfl rfl rfl (Nat.le_of_ble_eq_true rfl) (fun _ _ => rfl) rfl ?_
  show SW sc m_X10_writeWord _ _ _ 70 [some (.ref r0), none, some (.int l2), some (.int l3)] [] g1 P
  refine sw_iinc (v := l3 + (-1)) dX10_writeWord_70 rfl rfl (by decide) rfl ?_
  show SW sc m_X10_writeWord _ _ _ 73 [some (.ref r0), none, some (.int l2), some (.int (l3 + (-1)))] [] g1 P
  exact sw_goto dX10_writeWord_73 (by decide) (k)
theorem b_X10_writeWord_76 {r0 : Nat} {fs2 : List Value} {x2 : Int32} (hc2 : (h)[r0]? = some (10, fs2)) (hv2 : fs2[24]? = some (.int x2)) (hP : P (.inl (some (.int x2))) h) : SW sc m_X10_writeWord d rc rs 76 [some (.ref r0), none, none, none] [] h P := by
  refine sw_aload_n dX10_writeWord_76 rfl ?_
  refine sw_getf dX10_writeWord_77 lf_X10_317 hc2 hv2 ?_
  exact sw_ret (v := (some (.int x2))) dX10_writeWord_80 rt_i hP
theorem b_X10_writeText_0 {r0 : Nat} {fs3 : List Value} {fs6 : List Value} {g9 : ab_H} {fs9 : List Value} {fs12 : List Value} {x12 : Int32} {g13 : ab_H} {fs13 : List Value} {g16 : ab_H} {fs16 : List Value} (hc3 : (h)[r0]? = some (10, fs3)) (hk3 : 0 < fs3.length) (hc6 : ((h).set r0 (10, fs3.set 0 (.int 0)))[r0]? = some (10, fs6)) (hk6 : 24 < fs6.length) (hr9 : (((h).set r0 (10, fs3.set 0 (.int 0))).set r0 (10, fs6.set 24 (.int 0)))[r0]? = some (10, fs9)) (hm9 : MSE m_X10_saysWord d [.ref r0, .retAddr 0] (((h).set r0 (10, fs3.set 0 (.int 0))).set r0 (10, fs6.set 24 (.int 0))) none g9) (hc12 : (g9)[r0]? = some (10, fs12)) (hv12 : fs12[6]? = some (.int x12)) (hr13 : (g9)[r0]? = some (10, fs13)) (hm13 : MSE m_X10_saysNumber d [.ref r0, .int x12] g9 none g13) (hr16 : (g13)[r0]? = some (10, fs16)) (hm16 : MSE m_X10_says d [.ref r0, .int 59] g13 none g16) (k : SW sc m_X10_writeText (d + 1) rc rs 32 [some (.ref r0), some (.int 0), none] [] g16 P) : SW sc m_X10_writeText (d + 1) rc rs 0 [some (.ref r0), none, none] [] h P := by
  refine sw_aload_n dX10_writeText_0 rfl ?_
  refine sw_iconst (v := 0) dX10_writeText_1 (by decide) ?_
  refine sw_putf dX10_writeText_2 lp_X10_1 hc3 hk3 (fun _ _ => ⟨rfl, rfl⟩) ?_
  refine sw_aload_n dX10_writeText_5 rfl ?_
  refine sw_iconst (v := 0) dX10_writeText_6 (by decide) ?_
  refine sw_putf dX10_writeText_7 lp_X10_317 hc6 hk6 (fun _ _ => ⟨rfl, rfl⟩) ?_
  refine sw_aload_n dX10_writeText_10 rfl ?_
  refine sw_ldc (t := 0) dX10_writeText_11 sr_X10_251 rfl ?_
  refine sw_cV (M := m_X10_writeText) dX10_writeText_13 lv_X10_323 hm9 hr9 rfl (by decide) rfl rfl rfl (Nat.le_of_ble_eq_true rfl) (fun _ _ => rfl) rfl ?_
  show SW sc m_X10_writeText _ _ _ 16 [some (.ref r0), none, none] [] g9 P
  refine sw_aload_n dX10_writeText_16 rfl ?_
  refine sw_aload_n dX10_writeText_17 rfl ?_
  refine sw_getf dX10_writeText_18 lf_X10_35 hc12 hv12 ?_
  refine sw_cV (M := m_X10_writeText) dX10_writeText_21 lv_X10_327 hm13 hr13 rfl (by decide) rfl rfl rfl (Nat.le_of_ble_eq_true rfl) (fun _ _ => rfl) rfl ?_
  show SW sc m_X10_writeText _ _ _ 24 [some (.ref r0), none, none] [] g13 P
  refine sw_aload_n dX10_writeText_24 rfl ?_
  refine sw_bipush (v := 59) dX10_writeText_25 (by decide) ?_
  refine sw_cV (M := m_X10_writeText) dX10_writeText_27 lv_X10_320 hm16 hr16 rfl (by decide) rfl rfl rfl (Nat.le_of_ble_eq_true rfl) (fun _ _ => rfl) rfl ?_
  show SW sc m_X10_writeText _ _ _ 30 [some (.ref r0), none, none] [] g16 P
  refine sw_iconst (v := 0) dX10_writeText_30 (by decide) ?_
  refine sw_istore_n dX10_writeText_31 (by decide) rfl ?_
  show SW sc m_X10_writeText _ _ _ 32 [some (.ref r0), some (.int 0), none] [] g16 P
  exact (k)
theorem b_X10_writeText_32 {r0 : Nat} {l1 : Int32} {fs3 : List Value} {x3 : Int32} (hc3 : (h)[r0]? = some (10, fs3)) (hv3 : fs3[6]? = some (.int x3)) (kt : x3 ≤ l1 → SW sc m_X10_writeText d rc rs 102 [some (.ref r0), none, none] [] h P) (kf : ¬ (x3 ≤ l1) → SW sc m_X10_writeText d rc rs 40 [some (.ref r0), some (.int l1), none] [] h P) : SW sc m_X10_writeText d rc rs 32 [some (.ref r0), some (.int l1), none] [] h P := by
  refine sw_iload_n dX10_writeText_32 rfl ?_
  refine sw_aload_n dX10_writeText_33 rfl ?_
  refine sw_getf dX10_writeText_34 lf_X10_35 hc3 hv3 ?_
  exact sw_icmp_ge dX10_writeText_37 (by decide) (fun q => (sw_fg [false, true, false] rfl (kt q))) (fun q => (kf q))
theorem b_X10_writeText_40 {r0 : Nat} {l1 : Int32} (k : SW sc m_X10_writeText d rc rs 44 [some (.ref r0), some (.int l1), some (.int (l1 + 1))] [] h P) : SW sc m_X10_writeText d rc rs 40 [some (.ref r0), some (.int l1), none] [] h P := by
  refine sw_iload_n dX10_writeText_40 rfl ?_
  refine sw_iconst (v := 1) dX10_writeText_41 (by decide) ?_
  refine sw_iadd dX10_writeText_42 ?_
  refine sw_istore_n dX10_writeText_43 (by decide) rfl ?_
  show SW sc m_X10_writeText _ _ _ 44 [some (.ref r0), some (.int l1), some (.int (l1 + 1))] [] h P
  exact (k)
theorem b_X10_writeText_44 {r0 : Nat} {l1 : Int32} {l2 : Int32} {fs3 : List Value} {x3 : Int32} (hc3 : (h)[r0]? = some (10, fs3)) (hv3 : fs3[6]? = some (.int x3)) (kt : x3 ≤ l2 → SW sc m_X10_writeText d rc rs 96 [some (.ref r0), some (.int l1), none] [] h P) (kf : ¬ (x3 ≤ l2) → SW sc m_X10_writeText d rc rs 52 [some (.ref r0), some (.int l1), some (.int l2)] [] h P) : SW sc m_X10_writeText d rc rs 44 [some (.ref r0), some (.int l1), some (.int l2)] [] h P := by
  refine sw_iload_n dX10_writeText_44 rfl ?_
  refine sw_aload_n dX10_writeText_45 rfl ?_
  refine sw_getf dX10_writeText_46 lf_X10_35 hc3 hv3 ?_
  exact sw_icmp_ge dX10_writeText_49 (by decide) (fun q => (sw_fg [false, false, true] rfl (kt q))) (fun q => (kf q))
theorem b_X10_writeText_52 {r0 : Nat} {l1 : Int32} {l2 : Int32} {fs2 : List Value} {a2 : Nat} {vs4 : List Value} {x4 : Int32} {v6 : Int32} {g6 : ab_H} (hc2 : (h)[r0]? = some (10, fs2)) (hv2 : fs2[1]? = some (.ref a2)) (hc4 : (h)[a2]? = some (100, vs4)) (ho4 : ¬ l1 < 0) (hi4 : vs4[l1.toNatClampNeg]? = some (.int x4)) (hm6 : MSE m_X10_has d [.int x4, .int l2] h (some (.int v6)) g6) (kt : ¬ v6 = 0 → SW sc m_X10_writeText (d + 1) rc rs 68 [some (.ref r0), some (.int l1), some (.int l2)] [] g6 P) (kf : v6 = 0 → SW sc m_X10_writeText (d + 1) rc rs 65 [some (.ref r0), some (.int l1), some (.int l2)] [] g6 P) : SW sc m_X10_writeText (d + 1) rc rs 52 [some (.ref r0), some (.int l1), some (.int l2)] [] h P := by
  refine sw_aload_n dX10_writeText_52 rfl ?_
  refine sw_getf dX10_writeText_53 lf_X10_19 hc2 hv2 ?_
  refine sw_iload_n dX10_writeText_56 rfl ?_
  refine sw_iald dX10_writeText_57 hc4 ho4 hi4 ?_
  refine sw_iload_n dX10_writeText_58 rfl ?_
  refine sw_cS (M := m_X10_writeText) dX10_writeText_59 ls_X10_70 hm6 rfl rfl (Nat.le_of_ble_eq_true rfl) (fun _ _ => rfl) rfl ?_
  show SW sc m_X10_writeText _ _ _ 62 [some (.ref r0), some (.int l1), some (.int l2)] [.int v6] g6 P
  exact sw_if_ne dX10_writeText_62 (by decide) (fun q => (kt q)) (fun q => (kf q))
theorem b_X10_writeText_65 {r0 : Nat} {l1 : Int32} {l2 : Int32} (k : SW sc m_X10_writeText d rc rs 90 [some (.ref r0), some (.int l1), some (.int l2)] [] h P) : SW sc m_X10_writeText d rc rs 65 [some (.ref r0), some (.int l1), some (.int l2)] [] h P := by
  exact sw_goto dX10_writeText_65 (by decide) (k)
theorem b_X10_writeText_68 {r0 : Nat} {l1 : Int32} {l2 : Int32} {g3 : ab_H} {fs3 : List Value} {g6 : ab_H} {fs6 : List Value} {g9 : ab_H} {fs9 : List Value} {g12 : ab_H} {fs12 : List Value} (hr3 : (h)[r0]? = some (10, fs3)) (hm3 : MSE m_X10_saysWord d [.ref r0, .retAddr 1] h none g3) (hr6 : (g3)[r0]? = some (10, fs6)) (hm6 : MSE m_X10_saysNumber d [.ref r0, .int l1] g3 none g6) (hr9 : (g6)[r0]? = some (10, fs9)) (hm9 : MSE m_X10_saysNumber d [.ref r0, .int l2] g6 none g9) (hr12 : (g9)[r0]? = some (10, fs12)) (hm12 : MSE m_X10_says d [.ref r0, .int 59] g9 none g12) (k : SW sc m_X10_writeText (d + 1) rc rs 90 [some (.ref r0), some (.int l1), some (.int l2)] [] g12 P) : SW sc m_X10_writeText (d + 1) rc rs 68 [some (.ref r0), some (.int l1), some (.int l2)] [] h P := by
  refine sw_aload_n dX10_writeText_68 rfl ?_
  refine sw_ldc (t := 1) dX10_writeText_69 sr_X10_228 rfl ?_
  refine sw_cV (M := m_X10_writeText) dX10_writeText_71 lv_X10_323 hm3 hr3 rfl (by decide) rfl rfl rfl (Nat.le_of_ble_eq_true rfl) (fun _ _ => rfl) rfl ?_
  show SW sc m_X10_writeText _ _ _ 74 [some (.ref r0), some (.int l1), some (.int l2)] [] g3 P
  refine sw_aload_n dX10_writeText_74 rfl ?_
  refine sw_iload_n dX10_writeText_75 rfl ?_
  refine sw_cV (M := m_X10_writeText) dX10_writeText_76 lv_X10_327 hm6 hr6 rfl (by decide) rfl rfl rfl (Nat.le_of_ble_eq_true rfl) (fun _ _ => rfl) rfl ?_
  show SW sc m_X10_writeText _ _ _ 79 [some (.ref r0), some (.int l1), some (.int l2)] [] g6 P
  refine sw_aload_n dX10_writeText_79 rfl ?_
  refine sw_iload_n dX10_writeText_80 rfl ?_
  refine sw_cV (M := m_X10_writeText) dX10_writeText_81 lv_X10_327 hm9 hr9 rfl (by decide) rfl rfl rfl (Nat.le_of_ble_eq_true rfl) (fun _ _ => rfl) rfl ?_
  show SW sc m_X10_writeText _ _ _ 84 [some (.ref r0), some (.int l1), some (.int l2)] [] g9 P
  refine sw_aload_n dX10_writeText_84 rfl ?_
  refine sw_bipush (v := 59) dX10_writeText_85 (by decide) ?_
  refine sw_cV (M := m_X10_writeText) dX10_writeText_87 lv_X10_320 hm12 hr12 rfl (by decide) rfl rfl rfl (Nat.le_of_ble_eq_true rfl) (fun _ _ => rfl) rfl ?_
  show SW sc m_X10_writeText _ _ _ 90 [some (.ref r0), some (.int l1), some (.int l2)] [] g12 P
  exact (k)
theorem b_X10_writeText_90 {r0 : Nat} {l1 : Int32} {l2 : Int32} (k : SW sc m_X10_writeText d rc rs 44 [some (.ref r0), some (.int l1), some (.int (l2 + 1))] [] h P) : SW sc m_X10_writeText d rc rs 90 [some (.ref r0), some (.int l1), some (.int l2)] [] h P := by
  refine sw_iinc (v := l2 + 1) dX10_writeText_90 rfl rfl (by decide) rfl ?_
  show SW sc m_X10_writeText _ _ _ 93 [some (.ref r0), some (.int l1), some (.int (l2 + 1))] [] h P
  exact sw_goto dX10_writeText_93 (by decide) (k)
theorem b_X10_writeText_96 {r0 : Nat} {l1 : Int32} (k : SW sc m_X10_writeText d rc rs 32 [some (.ref r0), some (.int (l1 + 1)), none] [] h P) : SW sc m_X10_writeText d rc rs 96 [some (.ref r0), some (.int l1), none] [] h P := by
  refine sw_iinc (v := l1 + 1) dX10_writeText_96 rfl rfl (by decide) rfl ?_
  show SW sc m_X10_writeText _ _ _ 99 [some (.ref r0), some (.int (l1 + 1)), none] [] h P
  exact sw_goto dX10_writeText_99 (by decide) (k)
theorem b_X10_writeText_102 {r0 : Nat} (k : SW sc m_X10_writeText d rc rs 104 [some (.ref r0), some (.int 0), none] [] h P) : SW sc m_X10_writeText d rc rs 102 [some (.ref r0), none, none] [] h P := by
  refine sw_iconst (v := 0) dX10_writeText_102 (by decide) ?_
  refine sw_istore_n dX10_writeText_103 (by decide) rfl ?_
  show SW sc m_X10_writeText _ _ _ 104 [some (.ref r0), some (.int 0), none] [] h P
  exact (k)
theorem b_X10_writeText_104 {r0 : Nat} {l1 : Int32} {fs3 : List Value} {x3 : Int32} (hc3 : (h)[r0]? = some (10, fs3)) (hv3 : fs3[6]? = some (.int x3)) (kt : x3 ≤ l1 → SW sc m_X10_writeText d rc rs 164 [some (.ref r0), none, none] [] h P) (kf : ¬ (x3 ≤ l1) → SW sc m_X10_writeText d rc rs 112 [some (.ref r0), some (.int l1), none] [] h P) : SW sc m_X10_writeText d rc rs 104 [some (.ref r0), some (.int l1), none] [] h P := by
  refine sw_iload_n dX10_writeText_104 rfl ?_
  refine sw_aload_n dX10_writeText_105 rfl ?_
  refine sw_getf dX10_writeText_106 lf_X10_35 hc3 hv3 ?_
  exact sw_icmp_ge dX10_writeText_109 (by decide) (fun q => (sw_fg [false, true, false] rfl (kt q))) (fun q => (kf q))
theorem b_X10_writeText_112 {r0 : Nat} {l1 : Int32} {fs2 : List Value} {a2 : Nat} {vs6 : List Value} {x6 : Int32} (hc2 : (h)[r0]? = some (10, fs2)) (hv2 : fs2[1]? = some (.ref a2)) (hc6 : (h)[a2]? = some (100, vs6)) (ho6 : ¬ (10 + l1) < 0) (hi6 : vs6[(10 + l1).toNatClampNeg]? = some (.int x6)) (kt : ¬ x6 = 1 → SW sc m_X10_writeText d rc rs 128 [some (.ref r0), some (.int l1), none] [] h P) (kf : x6 = 1 → SW sc m_X10_writeText d rc rs 125 [some (.ref r0), some (.int l1), none] [] h P) : SW sc m_X10_writeText d rc rs 112 [some (.ref r0), some (.int l1), none] [] h P := by
  refine sw_aload_n dX10_writeText_112 rfl ?_
  refine sw_getf dX10_writeText_113 lf_X10_19 hc2 hv2 ?_
  refine sw_bipush (v := 10) dX10_writeText_116 (by decide) ?_
  refine sw_iload_n dX10_writeText_118 rfl ?_
  refine sw_iadd dX10_writeText_119 ?_
  refine sw_iald dX10_writeText_120 hc6 ho6 hi6 ?_
  refine sw_iconst (v := 1) dX10_writeText_121 (by decide) ?_
  exact sw_icmp_ne dX10_writeText_122 (by decide) (fun q => (kt q)) (fun q => (kf q))
theorem b_X10_writeText_125 {r0 : Nat} {l1 : Int32} (k : SW sc m_X10_writeText d rc rs 158 [some (.ref r0), some (.int l1), none] [] h P) : SW sc m_X10_writeText d rc rs 125 [some (.ref r0), some (.int l1), none] [] h P := by
  exact sw_goto dX10_writeText_125 (by decide) (k)
theorem b_X10_writeText_128 {r0 : Nat} {l1 : Int32} {g3 : ab_H} {fs3 : List Value} {g6 : ab_H} {fs6 : List Value} {fs9 : List Value} {a9 : Nat} {vs13 : List Value} {x13 : Int32} {g14 : ab_H} {fs14 : List Value} {g17 : ab_H} {fs17 : List Value} (hr3 : (h)[r0]? = some (10, fs3)) (hm3 : MSE m_X10_saysWord d [.ref r0, .retAddr 5] h none g3) (hr6 : (g3)[r0]? = some (10, fs6)) (hm6 : MSE m_X10_saysNumber d [.ref r0, .int l1] g3 none g6) (hc9 : (g6)[r0]? = some (10, fs9)) (hv9 : fs9[1]? = some (.ref a9)) (hc13 : (g6)[a9]? = some (100, vs13)) (ho13 : ¬ (10 + l1) < 0) (hi13 : vs13[(10 + l1).toNatClampNeg]? = some (.int x13)) (hr14 : (g6)[r0]? = some (10, fs14)) (hm14 : MSE m_X10_saysNumber d [.ref r0, .int x13] g6 none g14) (hr17 : (g14)[r0]? = some (10, fs17)) (hm17 : MSE m_X10_says d [.ref r0, .int 59] g14 none g17) (k : SW sc m_X10_writeText (d + 1) rc rs 158 [some (.ref r0), some (.int l1), none] [] g17 P) : SW sc m_X10_writeText (d + 1) rc rs 128 [some (.ref r0), some (.int l1), none] [] h P := by
  refine sw_aload_n dX10_writeText_128 rfl ?_
  refine sw_ldc (t := 5) dX10_writeText_129 sr_X10_246 rfl ?_
  refine sw_cV (M := m_X10_writeText) dX10_writeText_131 lv_X10_323 hm3 hr3 rfl (by decide) rfl rfl rfl (Nat.le_of_ble_eq_true rfl) (fun _ _ => rfl) rfl ?_
  show SW sc m_X10_writeText _ _ _ 134 [some (.ref r0), some (.int l1), none] [] g3 P
  refine sw_aload_n dX10_writeText_134 rfl ?_
  refine sw_iload_n dX10_writeText_135 rfl ?_
  refine sw_cV (M := m_X10_writeText) dX10_writeText_136 lv_X10_327 hm6 hr6 rfl (by decide) rfl rfl rfl (Nat.le_of_ble_eq_true rfl) (fun _ _ => rfl) rfl ?_
  show SW sc m_X10_writeText _ _ _ 139 [some (.ref r0), some (.int l1), none] [] g6 P
  refine sw_aload_n dX10_writeText_139 rfl ?_
  refine sw_aload_n dX10_writeText_140 rfl ?_
  refine sw_getf dX10_writeText_141 lf_X10_19 hc9 hv9 ?_
  refine sw_bipush (v := 10) dX10_writeText_144 (by decide) ?_
  refine sw_iload_n dX10_writeText_146 rfl ?_
  refine sw_iadd dX10_writeText_147 ?_
  refine sw_iald dX10_writeText_148 hc13 ho13 hi13 ?_
  refine sw_cV (M := m_X10_writeText) dX10_writeText_149 lv_X10_327 hm14 hr14 rfl (by decide) rfl rfl rfl (Nat.le_of_ble_eq_true rfl) (fun _ _ => rfl) rfl ?_
  show SW sc m_X10_writeText _ _ _ 152 [some (.ref r0), some (.int l1), none] [] g14 P
  refine sw_aload_n dX10_writeText_152 rfl ?_
  refine sw_bipush (v := 59) dX10_writeText_153 (by decide) ?_
  refine sw_cV (M := m_X10_writeText) dX10_writeText_155 lv_X10_320 hm17 hr17 rfl (by decide) rfl rfl rfl (Nat.le_of_ble_eq_true rfl) (fun _ _ => rfl) rfl ?_
  show SW sc m_X10_writeText _ _ _ 158 [some (.ref r0), some (.int l1), none] [] g17 P
  exact (k)
theorem b_X10_writeText_158 {r0 : Nat} {l1 : Int32} (k : SW sc m_X10_writeText d rc rs 104 [some (.ref r0), some (.int (l1 + 1)), none] [] h P) : SW sc m_X10_writeText d rc rs 158 [some (.ref r0), some (.int l1), none] [] h P := by
  refine sw_iinc (v := l1 + 1) dX10_writeText_158 rfl rfl (by decide) rfl ?_
  show SW sc m_X10_writeText _ _ _ 161 [some (.ref r0), some (.int (l1 + 1)), none] [] h P
  exact sw_goto dX10_writeText_161 (by decide) (k)
theorem b_X10_writeText_164 {r0 : Nat} {fs2 : List Value} {x2 : Int32} (hc2 : (h)[r0]? = some (10, fs2)) (hv2 : fs2[24]? = some (.int x2)) (hP : P (.inl (some (.int x2))) h) : SW sc m_X10_writeText d rc rs 164 [some (.ref r0), none, none] [] h P := by
  refine sw_aload_n dX10_writeText_164 rfl ?_
  refine sw_getf dX10_writeText_165 lf_X10_317 hc2 hv2 ?_
  exact sw_ret (v := (some (.int x2))) dX10_writeText_168 rt_i hP
theorem b_X10_outputByte_0 {r0 : Nat} {l1 : Int32} {fs5 : List Value} {x5 : Int32} {v8 : Int32} {g8 : ab_H} (hc5 : (h)[r0]? = some (10, fs5)) (hv5 : fs5[24]? = some (.int x5)) (hm8 : MSE m_X10_isIn d [.int l1, .int 0, .int (x5 - 1)] h (some (.int v8)) g8) (kt : ¬ v8 = 0 → SW sc m_X10_outputByte (d + 1) rc rs 19 [some (.ref r0), some (.int l1)] [.ref r0] g8 P) (kf : v8 = 0 → SW sc m_X10_outputByte (d + 1) rc rs 15 [some (.ref r0), some (.int l1)] [.ref r0] g8 P) : SW sc m_X10_outputByte (d + 1) rc rs 0 [some (.ref r0), some (.int l1)] [] h P := by
  refine sw_aload_n dX10_outputByte_0 rfl ?_
  refine sw_iload_n dX10_outputByte_1 rfl ?_
  refine sw_iconst (v := 0) dX10_outputByte_2 (by decide) ?_
  refine sw_aload_n dX10_outputByte_3 rfl ?_
  refine sw_getf dX10_outputByte_4 lf_X10_317 hc5 hv5 ?_
  refine sw_iconst (v := 1) dX10_outputByte_7 (by decide) ?_
  refine sw_isub dX10_outputByte_8 ?_
  refine sw_cS (M := m_X10_outputByte) dX10_outputByte_9 ls_X10_153 hm8 rfl rfl (Nat.le_of_ble_eq_true rfl) (fun _ _ => rfl) rfl ?_
  show SW sc m_X10_outputByte _ _ _ 12 [some (.ref r0), some (.int l1)] [.int v8, .ref r0] g8 P
  exact sw_if_ne dX10_outputByte_12 (by decide) (fun q => (kt q)) (fun q => (kf q))
theorem b_X10_outputByte_15 {r0 : Nat} {l1 : Int32} {q0 : Nat} (k : SW sc m_X10_outputByte d rc rs 20 [some (.ref r0), some (.int l1)] [.int 1, .ref q0] h P) : SW sc m_X10_outputByte d rc rs 15 [some (.ref r0), some (.int l1)] [.ref q0] h P := by
  refine sw_iconst (v := 1) dX10_outputByte_15 (by decide) ?_
  exact sw_goto dX10_outputByte_16 (by decide) (k)
theorem b_X10_outputByte_19 {r0 : Nat} {l1 : Int32} {q0 : Nat} (k : SW sc m_X10_outputByte d rc rs 20 [some (.ref r0), some (.int l1)] [.int 0, .ref q0] h P) : SW sc m_X10_outputByte d rc rs 19 [some (.ref r0), some (.int l1)] [.ref q0] h P := by
  refine sw_iconst (v := 0) dX10_outputByte_19 (by decide) ?_
  exact (k)
theorem b_X10_outputByte_20 {r0 : Nat} {l1 : Int32} {q0 : Nat} {s1 : Int32} {v2 : Int32} {g2 : ab_H} {fs2 : List Value} (hr2 : (h)[q0]? = some (10, fs2)) (hm2 : MSE m_X10_fails d [.ref q0, .int s1, .int 0] h (some (.int v2)) g2) (kt : v2 = 0 → SW sc m_X10_outputByte (d + 1) rc rs 31 [some (.ref r0), some (.int l1)] [] g2 P) (kf : ¬ (v2 = 0) → SW sc m_X10_outputByte (d + 1) rc rs 27 [none, none] [] g2 P) : SW sc m_X10_outputByte (d + 1) rc rs 20 [some (.ref r0), some (.int l1)] [.int s1, .ref q0] h P := by
  refine sw_iconst (v := 0) dX10_outputByte_20 (by decide) ?_
  refine sw_cV (M := m_X10_outputByte) dX10_outputByte_21 lv_X10_286 hm2 hr2 rfl (by decide) rfl rfl rfl (Nat.le_of_ble_eq_true rfl) (fun _ _ => rfl) rfl ?_
  show SW sc m_X10_outputByte _ _ _ 24 [some (.ref r0), some (.int l1)] [.int v2] g2 P
  exact sw_if_eq dX10_outputByte_24 (by decide) (fun q => (kt q)) (fun q => (sw_fg [true, true] rfl (kf q)))
theorem b_X10_outputByte_27  (k : SW sc m_X10_outputByte d rc rs 37 [none, none] [.int 0] h P) : SW sc m_X10_outputByte d rc rs 27 [none, none] [] h P := by
  refine sw_iconst (v := 0) dX10_outputByte_27 (by decide) ?_
  exact sw_goto dX10_outputByte_28 (by decide) (k)
theorem b_X10_outputByte_31 {r0 : Nat} {l1 : Int32} {fs2 : List Value} {a2 : Nat} {vs4 : List Value} {x4 : Int32} (hc2 : (h)[r0]? = some (10, fs2)) (hv2 : fs2[23]? = some (.ref a2)) (hc4 : (h)[a2]? = some (100, vs4)) (ho4 : ¬ l1 < 0) (hi4 : vs4[l1.toNatClampNeg]? = some (.int x4)) (k : SW sc m_X10_outputByte d rc rs 37 [none, none] [.int x4] h P) : SW sc m_X10_outputByte d rc rs 31 [some (.ref r0), some (.int l1)] [] h P := by
  refine sw_aload_n dX10_outputByte_31 rfl ?_
  refine sw_getf dX10_outputByte_32 lf_X10_47 hc2 hv2 ?_
  refine sw_iload_n dX10_outputByte_35 rfl ?_
  refine sw_iald dX10_outputByte_36 hc4 ho4 hi4 ?_
  exact (sw_fg [true, true] rfl (k))
theorem b_X10_outputByte_37 {s0 : Int32} (hP : P (.inl (some (.int s0))) h) : SW sc m_X10_outputByte d rc rs 37 [none, none] [.int s0] h P := by
  exact sw_ret (v := (some (.int s0))) dX10_outputByte_37 rt_i hP
theorem b_X10_symmetries_0 {r0 : Nat} {l1 : Int32} {v4 : Int32} {g4 : ab_H} {fs4 : List Value} (hr4 : (h)[r0]? = some (10, fs4)) (hm4 : MSE m_X10_isComponent d [.ref r0, .int l1] h (some (.int v4)) g4) (kt : ¬ v4 = 0 → SW sc m_X10_symmetries (d + 1) rc rs 13 [some (.ref r0), some (.int l1)] [.ref r0] g4 P) (kf : v4 = 0 → SW sc m_X10_symmetries (d + 1) rc rs 9 [some (.ref r0), some (.int l1)] [.ref r0] g4 P) : SW sc m_X10_symmetries (d + 1) rc rs 0 [some (.ref r0), some (.int l1)] [] h P := by
  refine sw_aload_n dX10_symmetries_0 rfl ?_
  refine sw_aload_n dX10_symmetries_1 rfl ?_
  refine sw_iload_n dX10_symmetries_2 rfl ?_
  refine sw_cV (M := m_X10_symmetries) dX10_symmetries_3 lv_X10_295 hm4 hr4 rfl (by decide) rfl rfl rfl (Nat.le_of_ble_eq_true rfl) (fun _ _ => rfl) rfl ?_
  show SW sc m_X10_symmetries _ _ _ 6 [some (.ref r0), some (.int l1)] [.int v4, .ref r0] g4 P
  exact sw_if_ne dX10_symmetries_6 (by decide) (fun q => (kt q)) (fun q => (kf q))
theorem b_X10_symmetries_9 {r0 : Nat} {l1 : Int32} {q0 : Nat} (k : SW sc m_X10_symmetries d rc rs 14 [some (.ref r0), some (.int l1)] [.int 1, .ref q0] h P) : SW sc m_X10_symmetries d rc rs 9 [some (.ref r0), some (.int l1)] [.ref q0] h P := by
  refine sw_iconst (v := 1) dX10_symmetries_9 (by decide) ?_
  exact sw_goto dX10_symmetries_10 (by decide) (k)
theorem b_X10_symmetries_13 {r0 : Nat} {l1 : Int32} {q0 : Nat} (k : SW sc m_X10_symmetries d rc rs 14 [some (.ref r0), some (.int l1)] [.int 0, .ref q0] h P) : SW sc m_X10_symmetries d rc rs 13 [some (.ref r0), some (.int l1)] [.ref q0] h P := by
  refine sw_iconst (v := 0) dX10_symmetries_13 (by decide) ?_
  exact (k)
theorem b_X10_symmetries_14 {r0 : Nat} {l1 : Int32} {q0 : Nat} {s1 : Int32} {v2 : Int32} {g2 : ab_H} {fs2 : List Value} (hr2 : (h)[q0]? = some (10, fs2)) (hm2 : MSE m_X10_fails d [.ref q0, .int s1, .int 0] h (some (.int v2)) g2) (kt : v2 = 0 → SW sc m_X10_symmetries (d + 1) rc rs 25 [some (.ref r0), some (.int l1)] [] g2 P) (kf : ¬ (v2 = 0) → SW sc m_X10_symmetries (d + 1) rc rs 21 [none, none] [] g2 P) : SW sc m_X10_symmetries (d + 1) rc rs 14 [some (.ref r0), some (.int l1)] [.int s1, .ref q0] h P := by
  refine sw_iconst (v := 0) dX10_symmetries_14 (by decide) ?_
  refine sw_cV (M := m_X10_symmetries) dX10_symmetries_15 lv_X10_286 hm2 hr2 rfl (by decide) rfl rfl rfl (Nat.le_of_ble_eq_true rfl) (fun _ _ => rfl) rfl ?_
  show SW sc m_X10_symmetries _ _ _ 18 [some (.ref r0), some (.int l1)] [.int v2] g2 P
  exact sw_if_eq dX10_symmetries_18 (by decide) (fun q => (kt q)) (fun q => (sw_fg [true, true] rfl (kf q)))
theorem b_X10_symmetries_21  (k : SW sc m_X10_symmetries d rc rs 34 [none, none] [.int 0] h P) : SW sc m_X10_symmetries d rc rs 21 [none, none] [] h P := by
  refine sw_iconst (v := 0) dX10_symmetries_21 (by decide) ?_
  exact sw_goto dX10_symmetries_22 (by decide) (k)
theorem b_X10_symmetries_25 {r0 : Nat} {l1 : Int32} {v4 : Int32} {g4 : ab_H} {fs4 : List Value} {v5 : Int32} {g5 : ab_H} {fs5 : List Value} (hr4 : (h)[r0]? = some (10, fs4)) (hm4 : MSE m_X10_componentAt d [.ref r0, .int l1] h (some (.int v4)) g4) (hr5 : (g4)[r0]? = some (10, fs5)) (hm5 : MSE m_X10_symmetriesOf d [.ref r0, .int v4] g4 (some (.int v5)) g5) (k : SW sc m_X10_symmetries (d + 1) rc rs 34 [none, none] [.int v5] g5 P) : SW sc m_X10_symmetries (d + 1) rc rs 25 [some (.ref r0), some (.int l1)] [] h P := by
  refine sw_aload_n dX10_symmetries_25 rfl ?_
  refine sw_aload_n dX10_symmetries_26 rfl ?_
  refine sw_iload_n dX10_symmetries_27 rfl ?_
  refine sw_cV (M := m_X10_symmetries) dX10_symmetries_28 lv_X10_133 hm4 hr4 rfl (by decide) rfl rfl rfl (Nat.le_of_ble_eq_true rfl) (fun _ _ => rfl) rfl ?_
  show SW sc m_X10_symmetries _ _ _ 31 [some (.ref r0), some (.int l1)] [.int v4, .ref r0] g4 P
  refine sw_cV (M := m_X10_symmetries) dX10_symmetries_31 lv_X10_330 hm5 hr5 rfl (by decide) rfl rfl rfl (Nat.le_of_ble_eq_true rfl) (fun _ _ => rfl) rfl ?_
  show SW sc m_X10_symmetries _ _ _ 34 [some (.ref r0), some (.int l1)] [.int v5] g5 P
  exact (sw_fg [true, true] rfl (k))
theorem b_X10_symmetries_34 {s0 : Int32} (hP : P (.inl (some (.int s0))) h) : SW sc m_X10_symmetries d rc rs 34 [none, none] [.int s0] h P := by
  exact sw_ret (v := (some (.int s0))) dX10_symmetries_34 rt_i hP
theorem b_X10_labellings_0 {r0 : Nat} {l1 : Int32} {v4 : Int32} {g4 : ab_H} {fs4 : List Value} (hr4 : (h)[r0]? = some (10, fs4)) (hm4 : MSE m_X10_isComponent d [.ref r0, .int l1] h (some (.int v4)) g4) (kt : ¬ v4 = 0 → SW sc m_X10_labellings (d + 1) rc rs 13 [some (.ref r0), some (.int l1), none] [.ref r0] g4 P) (kf : v4 = 0 → SW sc m_X10_labellings (d + 1) rc rs 9 [some (.ref r0), some (.int l1), none] [.ref r0] g4 P) : SW sc m_X10_labellings (d + 1) rc rs 0 [some (.ref r0), some (.int l1), none] [] h P := by
  refine sw_aload_n dX10_labellings_0 rfl ?_
  refine sw_aload_n dX10_labellings_1 rfl ?_
  refine sw_iload_n dX10_labellings_2 rfl ?_
  refine sw_cV (M := m_X10_labellings) dX10_labellings_3 lv_X10_295 hm4 hr4 rfl (by decide) rfl rfl rfl (Nat.le_of_ble_eq_true rfl) (fun _ _ => rfl) rfl ?_
  show SW sc m_X10_labellings _ _ _ 6 [some (.ref r0), some (.int l1), none] [.int v4, .ref r0] g4 P
  exact sw_if_ne dX10_labellings_6 (by decide) (fun q => (kt q)) (fun q => (kf q))
theorem b_X10_labellings_9 {r0 : Nat} {l1 : Int32} {q0 : Nat} (k : SW sc m_X10_labellings d rc rs 14 [some (.ref r0), some (.int l1), none] [.int 1, .ref q0] h P) : SW sc m_X10_labellings d rc rs 9 [some (.ref r0), some (.int l1), none] [.ref q0] h P := by
  refine sw_iconst (v := 1) dX10_labellings_9 (by decide) ?_
  exact sw_goto dX10_labellings_10 (by decide) (k)
theorem b_X10_labellings_13 {r0 : Nat} {l1 : Int32} {q0 : Nat} (k : SW sc m_X10_labellings d rc rs 14 [some (.ref r0), some (.int l1), none] [.int 0, .ref q0] h P) : SW sc m_X10_labellings d rc rs 13 [some (.ref r0), some (.int l1), none] [.ref q0] h P := by
  refine sw_iconst (v := 0) dX10_labellings_13 (by decide) ?_
  exact (k)
theorem b_X10_labellings_14 {r0 : Nat} {l1 : Int32} {q0 : Nat} {s1 : Int32} {v2 : Int32} {g2 : ab_H} {fs2 : List Value} (hr2 : (h)[q0]? = some (10, fs2)) (hm2 : MSE m_X10_fails d [.ref q0, .int s1, .int 0] h (some (.int v2)) g2) (kt : v2 = 0 → SW sc m_X10_labellings (d + 1) rc rs 23 [some (.ref r0), some (.int l1), none] [] g2 P) (kf : ¬ (v2 = 0) → SW sc m_X10_labellings (d + 1) rc rs 21 [none, none, none] [] g2 P) : SW sc m_X10_labellings (d + 1) rc rs 14 [some (.ref r0), some (.int l1), none] [.int s1, .ref q0] h P := by
  refine sw_iconst (v := 0) dX10_labellings_14 (by decide) ?_
  refine sw_cV (M := m_X10_labellings) dX10_labellings_15 lv_X10_286 hm2 hr2 rfl (by decide) rfl rfl rfl (Nat.le_of_ble_eq_true rfl) (fun _ _ => rfl) rfl ?_
  show SW sc m_X10_labellings _ _ _ 18 [some (.ref r0), some (.int l1), none] [.int v2] g2 P
  exact sw_if_eq dX10_labellings_18 (by decide) (fun q => (kt q)) (fun q => (sw_fg [true, true, false] rfl (kf q)))
theorem b_X10_labellings_21  (hP : P (.inl (some (.int 0))) h) : SW sc m_X10_labellings d rc rs 21 [none, none, none] [] h P := by
  refine sw_iconst (v := 0) dX10_labellings_21 (by decide) ?_
  exact sw_ret (v := (some (.int 0))) dX10_labellings_22 rt_i hP
theorem b_X10_labellings_23 {r0 : Nat} {l1 : Int32} {v3 : Int32} {g3 : ab_H} {fs3 : List Value} {v6 : Int32} {g6 : ab_H} {v7 : Int64} {g7 : ab_H} {v10 : Int32} {g10 : ab_H} {fs10 : List Value} (hr3 : (h)[r0]? = some (10, fs3)) (hm3 : MSE m_X10_componentAt d [.ref r0, .int l1] h (some (.int v3)) g3) (hm6 : MSE m_X10_ones d [.int v3] g3 (some (.int v6)) g6) (hm7 : MSE m_X10_factorial d [.int v6] g6 (some (.long v7)) g7) (hr10 : (g7)[r0]? = some (10, fs10)) (hm10 : MSE m_X10_symmetriesOf d [.ref r0, .int v3] g7 (some (.int v10)) g10) (hz12 : ¬ v10.toInt64 = 0) (hP : P (.inl (some (.int ((v7 / v10.toInt64).toInt32)))) g10) : SW sc m_X10_labellings (d + 1) rc rs 23 [some (.ref r0), some (.int l1), none] [] h P := by
  refine sw_aload_n dX10_labellings_23 rfl ?_
  refine sw_iload_n dX10_labellings_24 rfl ?_
  refine sw_cV (M := m_X10_labellings) dX10_labellings_25 lv_X10_133 hm3 hr3 rfl (by decide) rfl rfl rfl (Nat.le_of_ble_eq_true rfl) (fun _ _ => rfl) rfl ?_
  show SW sc m_X10_labellings _ _ _ 28 [some (.ref r0), some (.int l1), none] [.int v3] g3 P
  refine sw_istore_n dX10_labellings_28 (by decide) rfl ?_
  show SW sc m_X10_labellings _ _ _ 29 [some (.ref r0), some (.int l1), some (.int v3)] [] g3 P
  refine sw_iload_n dX10_labellings_29 rfl ?_
  refine sw_cS (M := m_X10_labellings) dX10_labellings_30 ls_X10_111 hm6 rfl rfl (Nat.le_of_ble_eq_true rfl) (fun _ _ => rfl) rfl ?_
  show SW sc m_X10_labellings _ _ _ 33 [some (.ref r0), some (.int l1), some (.int v3)] [.int v6] g6 P
  refine sw_cS (M := m_X10_labellings) dX10_labellings_33 ls_X10_313 hm7 rfl rfl (Nat.le_of_ble_eq_true rfl) (fun _ _ => rfl) rfl ?_
  show SW sc m_X10_labellings _ _ _ 36 [some (.ref r0), some (.int l1), some (.int v3)] [.long v7] g7 P
  refine sw_aload_n dX10_labellings_36 rfl ?_
  refine sw_iload_n dX10_labellings_37 rfl ?_
  refine sw_cV (M := m_X10_labellings) dX10_labellings_38 lv_X10_330 hm10 hr10 rfl (by decide) rfl rfl rfl (Nat.le_of_ble_eq_true rfl) (fun _ _ => rfl) rfl ?_
  show SW sc m_X10_labellings _ _ _ 41 [some (.ref r0), some (.int l1), some (.int v3)] [.int v10, .long v7] g10 P
  refine sw_i2l dX10_labellings_41 ?_
  refine sw_ldiv dX10_labellings_42 hz12 ?_
  refine sw_l2i dX10_labellings_43 ?_
  exact sw_ret (v := (some (.int ((v7 / v10.toInt64).toInt32)))) dX10_labellings_44 rt_i hP
theorem b_X10_partings_0 {l0 : Int32} {l1 : Int32} (kt : l0 = 0 → SW sc m_X10_partings d rc rs 8 [some (.int l0), some (.int l1)] [] h P) (kf : ¬ (l0 = 0) → SW sc m_X10_partings d rc rs 4 [some (.int l0), some (.int l1)] [] h P) : SW sc m_X10_partings d rc rs 0 [some (.int l0), some (.int l1)] [] h P := by
  refine sw_iload_n dX10_partings_0 rfl ?_
  exact sw_if_eq dX10_partings_1 (by decide) (fun q => (kt q)) (fun q => (kf q))
theorem b_X10_partings_4 {l0 : Int32} {l1 : Int32} (kt : ¬ l1 = 0 → SW sc m_X10_partings d rc rs 19 [some (.int l0), some (.int l1)] [] h P) (kf : l1 = 0 → SW sc m_X10_partings d rc rs 8 [some (.int l0), some (.int l1)] [] h P) : SW sc m_X10_partings d rc rs 4 [some (.int l0), some (.int l1)] [] h P := by
  refine sw_iload_n dX10_partings_4 rfl ?_
  exact sw_if_ne dX10_partings_5 (by decide) (fun q => (kt q)) (fun q => (kf q))
theorem b_X10_partings_8 {l0 : Int32} {l1 : Int32} (kt : ¬ l0 = l1 → SW sc m_X10_partings d rc rs 17 [none, none] [] h P) (kf : l0 = l1 → SW sc m_X10_partings d rc rs 13 [none, none] [] h P) : SW sc m_X10_partings d rc rs 8 [some (.int l0), some (.int l1)] [] h P := by
  refine sw_iload_n dX10_partings_8 rfl ?_
  refine sw_iload_n dX10_partings_9 rfl ?_
  exact sw_icmp_ne dX10_partings_10 (by decide) (fun q => (sw_fg [true, true] rfl (kt q))) (fun q => (sw_fg [true, true] rfl (kf q)))
theorem b_X10_partings_13  (k : SW sc m_X10_partings d rc rs 18 [none, none] [.long 1] h P) : SW sc m_X10_partings d rc rs 13 [none, none] [] h P := by
  refine sw_lconst (v := 1) dX10_partings_13 (by decide) ?_
  exact sw_goto dX10_partings_14 (by decide) (k)
theorem b_X10_partings_17  (k : SW sc m_X10_partings d rc rs 18 [none, none] [.long 0] h P) : SW sc m_X10_partings d rc rs 17 [none, none] [] h P := by
  refine sw_lconst (v := 0) dX10_partings_17 (by decide) ?_
  exact (k)
theorem b_X10_partings_18 {s0 : Int64} (hP : P (.inl (some (.long s0))) h) : SW sc m_X10_partings d rc rs 18 [none, none] [.long s0] h P := by
  exact sw_ret (v := (some (.long s0))) dX10_partings_18 rt_l hP
theorem b_X10_partings_19 {l0 : Int32} {l1 : Int32} {v7 : Int64} {g7 : ab_H} {v14 : Int64} {g14 : ab_H} (hm7 : MSE m_X10_partings d [.int (l0 - 1), .int (l1 - 1)] h (some (.long v7)) g7) (hm14 : MSE m_X10_partings d [.int (l0 - 1), .int l1] g7 (some (.long v14)) g14) (hP : P (.inl (some (.long (v7 + (l1.toInt64 * v14))))) g14) : SW sc m_X10_partings (d + 1) rc rs 19 [some (.int l0), some (.int l1)] [] h P := by
  refine sw_iload_n dX10_partings_19 rfl ?_
  refine sw_iconst (v := 1) dX10_partings_20 (by decide) ?_
  refine sw_isub dX10_partings_21 ?_
  refine sw_iload_n dX10_partings_22 rfl ?_
  refine sw_iconst (v := 1) dX10_partings_23 (by decide) ?_
  refine sw_isub dX10_partings_24 ?_
  refine sw_cS (M := m_X10_partings) dX10_partings_25 ls_X10_333 hm7 rfl rfl (Nat.le_of_ble_eq_true rfl) (fun _ _ => rfl) rfl ?_
  show SW sc m_X10_partings _ _ _ 28 [some (.int l0), some (.int l1)] [.long v7] g7 P
  refine sw_iload_n dX10_partings_28 rfl ?_
  refine sw_i2l dX10_partings_29 ?_
  refine sw_iload_n dX10_partings_30 rfl ?_
  refine sw_iconst (v := 1) dX10_partings_31 (by decide) ?_
  refine sw_isub dX10_partings_32 ?_
  refine sw_iload_n dX10_partings_33 rfl ?_
  refine sw_cS (M := m_X10_partings) dX10_partings_34 ls_X10_333 hm14 rfl rfl (Nat.le_of_ble_eq_true rfl) (fun _ _ => rfl) rfl ?_
  show SW sc m_X10_partings _ _ _ 37 [some (.int l0), some (.int l1)] [.long v14, .long l1.toInt64, .long v7] g14 P
  refine sw_lmul dX10_partings_37 ?_
  refine sw_ladd dX10_partings_38 ?_
  exact sw_ret (v := (some (.long (v7 + (l1.toInt64 * v14))))) dX10_partings_39 rt_l hP
theorem b_X10_withLeaves_0 {r0 : Nat} {l1 : Int32} {l2 : Int32} {v5 : Int32} {g5 : ab_H} (hm5 : MSE m_X10_isIn d [.int l1, .int 1, .int 10] h (some (.int v5)) g5) (kt : v5 = 0 → SW sc m_X10_withLeaves (d + 1) rc rs 21 [none, some (.int l1), some (.int l2)] [.ref r0] g5 P) (kf : ¬ (v5 = 0) → SW sc m_X10_withLeaves (d + 1) rc rs 11 [none, some (.int l1), some (.int l2)] [.ref r0] g5 P) : SW sc m_X10_withLeaves (d + 1) rc rs 0 [some (.ref r0), some (.int l1), some (.int l2)] [] h P := by
  refine sw_aload_n dX10_withLeaves_0 rfl ?_
  refine sw_iload_n dX10_withLeaves_1 rfl ?_
  refine sw_iconst (v := 1) dX10_withLeaves_2 (by decide) ?_
  refine sw_bipush (v := 10) dX10_withLeaves_3 (by decide) ?_
  refine sw_cS (M := m_X10_withLeaves) dX10_withLeaves_5 ls_X10_153 hm5 rfl rfl (Nat.le_of_ble_eq_true rfl) (fun _ _ => rfl) rfl ?_
  show SW sc m_X10_withLeaves _ _ _ 8 [some (.ref r0), some (.int l1), some (.int l2)] [.int v5, .ref r0] g5 P
  exact sw_if_eq dX10_withLeaves_8 (by decide) (fun q => (sw_fg [true, false, false] rfl (kt q))) (fun q => (sw_fg [true, false, false] rfl (kf q)))
theorem b_X10_withLeaves_11 {l1 : Int32} {l2 : Int32} {q0 : Nat} {v4 : Int32} {g4 : ab_H} (hm4 : MSE m_X10_isIn d [.int l2, .int 0, .int 10] h (some (.int v4)) g4) (kt : ¬ v4 = 0 → SW sc m_X10_withLeaves (d + 1) rc rs 25 [none, some (.int l1), some (.int l2)] [.ref q0] g4 P) (kf : v4 = 0 → SW sc m_X10_withLeaves (d + 1) rc rs 21 [none, some (.int l1), some (.int l2)] [.ref q0] g4 P) : SW sc m_X10_withLeaves (d + 1) rc rs 11 [none, some (.int l1), some (.int l2)] [.ref q0] h P := by
  refine sw_iload_n dX10_withLeaves_11 rfl ?_
  refine sw_iconst (v := 0) dX10_withLeaves_12 (by decide) ?_
  refine sw_bipush (v := 10) dX10_withLeaves_13 (by decide) ?_
  refine sw_cS (M := m_X10_withLeaves) dX10_withLeaves_15 ls_X10_153 hm4 rfl rfl (Nat.le_of_ble_eq_true rfl) (fun _ _ => rfl) rfl ?_
  show SW sc m_X10_withLeaves _ _ _ 18 [none, some (.int l1), some (.int l2)] [.int v4, .ref q0] g4 P
  exact sw_if_ne dX10_withLeaves_18 (by decide) (fun q => (kt q)) (fun q => (kf q))
theorem b_X10_withLeaves_21 {l1 : Int32} {l2 : Int32} {q0 : Nat} (k : SW sc m_X10_withLeaves d rc rs 26 [none, some (.int l1), some (.int l2)] [.int 1, .ref q0] h P) : SW sc m_X10_withLeaves d rc rs 21 [none, some (.int l1), some (.int l2)] [.ref q0] h P := by
  refine sw_iconst (v := 1) dX10_withLeaves_21 (by decide) ?_
  exact sw_goto dX10_withLeaves_22 (by decide) (k)
theorem b_X10_withLeaves_25 {l1 : Int32} {l2 : Int32} {q0 : Nat} (k : SW sc m_X10_withLeaves d rc rs 26 [none, some (.int l1), some (.int l2)] [.int 0, .ref q0] h P) : SW sc m_X10_withLeaves d rc rs 25 [none, some (.int l1), some (.int l2)] [.ref q0] h P := by
  refine sw_iconst (v := 0) dX10_withLeaves_25 (by decide) ?_
  exact (k)
theorem b_X10_withLeaves_26 {l1 : Int32} {l2 : Int32} {q0 : Nat} {s1 : Int32} {v2 : Int32} {g2 : ab_H} {fs2 : List Value} (hr2 : (h)[q0]? = some (10, fs2)) (hm2 : MSE m_X10_fails d [.ref q0, .int s1, .int 0] h (some (.int v2)) g2) (kt : v2 = 0 → SW sc m_X10_withLeaves (d + 1) rc rs 35 [none, some (.int l1), some (.int l2)] [] g2 P) (kf : ¬ (v2 = 0) → SW sc m_X10_withLeaves (d + 1) rc rs 33 [none, none, none] [] g2 P) : SW sc m_X10_withLeaves (d + 1) rc rs 26 [none, some (.int l1), some (.int l2)] [.int s1, .ref q0] h P := by
  refine sw_iconst (v := 0) dX10_withLeaves_26 (by decide) ?_
  refine sw_cV (M := m_X10_withLeaves) dX10_withLeaves_27 lv_X10_286 hm2 hr2 rfl (by decide) rfl rfl rfl (Nat.le_of_ble_eq_true rfl) (fun _ _ => rfl) rfl ?_
  show SW sc m_X10_withLeaves _ _ _ 30 [none, some (.int l1), some (.int l2)] [.int v2] g2 P
  exact sw_if_eq dX10_withLeaves_30 (by decide) (fun q => (kt q)) (fun q => (sw_fg [false, true, true] rfl (kf q)))
theorem b_X10_withLeaves_33  (hP : P (.inl (some (.int 0))) h) : SW sc m_X10_withLeaves d rc rs 33 [none, none, none] [] h P := by
  refine sw_iconst (v := 0) dX10_withLeaves_33 (by decide) ?_
  exact sw_ret (v := (some (.int 0))) dX10_withLeaves_34 rt_i hP
theorem b_X10_withLeaves_35 {l1 : Int32} {l2 : Int32} (kt : 3 ≤ l1 → SW sc m_X10_withLeaves d rc rs 60 [none, some (.int l1), some (.int l2)] [] h P) (kf : ¬ (3 ≤ l1) → SW sc m_X10_withLeaves d rc rs 40 [none, some (.int l1), some (.int l2)] [] h P) : SW sc m_X10_withLeaves d rc rs 35 [none, some (.int l1), some (.int l2)] [] h P := by
  refine sw_iload_n dX10_withLeaves_35 rfl ?_
  refine sw_iconst (v := 3) dX10_withLeaves_36 (by decide) ?_
  exact sw_icmp_ge dX10_withLeaves_37 (by decide) (fun q => (kt q)) (fun q => (kf q))
theorem b_X10_withLeaves_40 {l1 : Int32} {l2 : Int32} (kt : ¬ l1 = 1 → SW sc m_X10_withLeaves d rc rs 50 [none, none, none] [.int l2] h P) (kf : l1 = 1 → SW sc m_X10_withLeaves d rc rs 46 [none, none, none] [.int l2] h P) : SW sc m_X10_withLeaves d rc rs 40 [none, some (.int l1), some (.int l2)] [] h P := by
  refine sw_iload_n dX10_withLeaves_40 rfl ?_
  refine sw_iload_n dX10_withLeaves_41 rfl ?_
  refine sw_iconst (v := 1) dX10_withLeaves_42 (by decide) ?_
  exact sw_icmp_ne dX10_withLeaves_43 (by decide) (fun q => (sw_fg [false, true, true] rfl (kt q))) (fun q => (sw_fg [false, true, true] rfl (kf q)))
theorem b_X10_withLeaves_46 {s0 : Int32} (k : SW sc m_X10_withLeaves d rc rs 51 [none, none, none] [.int 0, .int s0] h P) : SW sc m_X10_withLeaves d rc rs 46 [none, none, none] [.int s0] h P := by
  refine sw_iconst (v := 0) dX10_withLeaves_46 (by decide) ?_
  exact sw_goto dX10_withLeaves_47 (by decide) (k)
theorem b_X10_withLeaves_50 {s0 : Int32} (k : SW sc m_X10_withLeaves d rc rs 51 [none, none, none] [.int 2, .int s0] h P) : SW sc m_X10_withLeaves d rc rs 50 [none, none, none] [.int s0] h P := by
  refine sw_iconst (v := 2) dX10_withLeaves_50 (by decide) ?_
  exact (k)
theorem b_X10_withLeaves_51 {s0 : Int32} {s1 : Int32} (kt : ¬ s0 = s1 → SW sc m_X10_withLeaves d rc rs 58 [none, none, none] [] h P) (kf : s0 = s1 → SW sc m_X10_withLeaves d rc rs 54 [none, none, none] [] h P) : SW sc m_X10_withLeaves d rc rs 51 [none, none, none] [.int s1, .int s0] h P := by
  exact sw_icmp_ne dX10_withLeaves_51 (by decide) (fun q => (kt q)) (fun q => (kf q))
theorem b_X10_withLeaves_54  (k : SW sc m_X10_withLeaves d rc rs 59 [none, none, none] [.int 1] h P) : SW sc m_X10_withLeaves d rc rs 54 [none, none, none] [] h P := by
  refine sw_iconst (v := 1) dX10_withLeaves_54 (by decide) ?_
  exact sw_goto dX10_withLeaves_55 (by decide) (k)
theorem b_X10_withLeaves_58  (k : SW sc m_X10_withLeaves d rc rs 59 [none, none, none] [.int 0] h P) : SW sc m_X10_withLeaves d rc rs 58 [none, none, none] [] h P := by
  refine sw_iconst (v := 0) dX10_withLeaves_58 (by decide) ?_
  exact (k)
theorem b_X10_withLeaves_59 {s0 : Int32} (hP : P (.inl (some (.int s0))) h) : SW sc m_X10_withLeaves d rc rs 59 [none, none, none] [.int s0] h P := by
  exact sw_ret (v := (some (.int s0))) dX10_withLeaves_59 rt_i hP
theorem b_X10_withLeaves_60 {l1 : Int32} {l2 : Int32} (kt : l2 < 2 → SW sc m_X10_withLeaves d rc rs 70 [none, none, none] [] h P) (kf : ¬ (l2 < 2) → SW sc m_X10_withLeaves d rc rs 65 [none, some (.int l1), some (.int l2)] [] h P) : SW sc m_X10_withLeaves d rc rs 60 [none, some (.int l1), some (.int l2)] [] h P := by
  refine sw_iload_n dX10_withLeaves_60 rfl ?_
  refine sw_iconst (v := 2) dX10_withLeaves_61 (by decide) ?_
  exact sw_icmp_lt dX10_withLeaves_62 (by decide) (fun q => (sw_fg [false, true, true] rfl (kt q))) (fun q => (kf q))
theorem b_X10_withLeaves_65 {l1 : Int32} {l2 : Int32} (kt : l2 < l1 → SW sc m_X10_withLeaves d rc rs 74 [none, some (.int l1), some (.int l2)] [] h P) (kf : ¬ (l2 < l1) → SW sc m_X10_withLeaves d rc rs 70 [none, none, none] [] h P) : SW sc m_X10_withLeaves d rc rs 65 [none, some (.int l1), some (.int l2)] [] h P := by
  refine sw_iload_n dX10_withLeaves_65 rfl ?_
  refine sw_iload_n dX10_withLeaves_66 rfl ?_
  exact sw_icmp_lt dX10_withLeaves_67 (by decide) (fun q => (kt q)) (fun q => (sw_fg [false, true, true] rfl (kf q)))
end
