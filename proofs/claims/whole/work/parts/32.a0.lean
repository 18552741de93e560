section
variable {sc : Option (List Int32)} {d rc rs : Nat} {h : ab_H} {P : ab_O → ab_H → Prop}
theorem b_X0_at_0 {r0 : Nat} {l1 : Int32} (kt : l1 < 0 → SW sc m_X0_at d rc rs 21 [none, none] [] h P) (kf : ¬ (l1 < 0) → SW sc m_X0_at d rc rs 4 [some (.ref r0), some (.int l1)] [] h P) : SW sc m_X0_at d rc rs 0 [some (.ref r0), some (.int l1)] [] h P := by
  refine sw_iload_n dX0_at_0 rfl ?_
  exact sw_if_lt dX0_at_1 (by decide) (fun q => (sw_fg [true, true] rfl (kt q))) (fun q => (kf q))
theorem b_X0_at_4 {r0 : Nat} {l1 : Int32} {fs3 : List Value} {x3 : Int32} (hc3 : (h)[r0]? = some (0, fs3)) (hv3 : fs3[1]? = some (.int x3)) (kt : x3 ≤ l1 → SW sc m_X0_at d rc rs 21 [none, none] [] h P) (kf : ¬ (x3 ≤ l1) → SW sc m_X0_at d rc rs 12 [some (.ref r0), some (.int l1)] [] h P) : SW sc m_X0_at d rc rs 4 [some (.ref r0), some (.int l1)] [] h P := by
  refine sw_iload_n dX0_at_4 rfl ?_
  refine sw_aload_n dX0_at_5 rfl ?_
  refine sw_getf dX0_at_6 lf_X0_15 hc3 hv3 ?_
  exact sw_icmp_ge dX0_at_9 (by decide) (fun q => (sw_fg [true, true] rfl (kt q))) (fun q => (kf q))
theorem b_X0_at_12 {r0 : Nat} {l1 : Int32} {fs2 : List Value} {a2 : Nat} {vs4 : List Value} {x4 : Int32} (hc2 : (h)[r0]? = some (0, fs2)) (hv2 : fs2[0]? = some (.ref a2)) (hc4 : (h)[a2]? = some (101, vs4)) (ho4 : ¬ l1 < 0) (hi4 : vs4[l1.toNatClampNeg]? = some (.int x4)) (k : SW sc m_X0_at d rc rs 22 [none, none] [.int x4] h P) : SW sc m_X0_at d rc rs 12 [some (.ref r0), some (.int l1)] [] h P := by
  refine sw_aload_n dX0_at_12 rfl ?_
  refine sw_getf dX0_at_13 lf_X0_9 hc2 hv2 ?_
  refine sw_iload_n dX0_at_16 rfl ?_
  refine sw_bald dX0_at_17 hc4 ho4 hi4 ?_
  exact sw_goto dX0_at_18 (by decide) (sw_fg [true, true] rfl (k))
theorem b_X0_at_21  (k : SW sc m_X0_at d rc rs 22 [none, none] [.int (-1)] h P) : SW sc m_X0_at d rc rs 21 [none, none] [] h P := by
  refine sw_iconst (v := (-1)) dX0_at_21 (by decide) ?_
  exact (k)
theorem b_X0_at_22 {s0 : Int32} (hP : P (.inl (some (.int s0))) h) : SW sc m_X0_at d rc rs 22 [none, none] [.int s0] h P := by
  exact sw_ret (v := (some (.int s0))) dX0_at_22 rt_i hP
theorem b_X0_shorten_0 {r0 : Nat} {l1 : Int32} (kt : l1 < 0 → SW sc m_X0_shorten d rc rs 12 [none, none] [] h P) (kf : ¬ (l1 < 0) → SW sc m_X0_shorten d rc rs 4 [some (.ref r0), some (.int l1)] [] h P) : SW sc m_X0_shorten d rc rs 0 [some (.ref r0), some (.int l1)] [] h P := by
  refine sw_iload_n dX0_shorten_0 rfl ?_
  exact sw_if_lt dX0_shorten_1 (by decide) (fun q => (sw_fg [true, true] rfl (kt q))) (fun q => (kf q))
theorem b_X0_shorten_4 {r0 : Nat} {l1 : Int32} {fs3 : List Value} {x3 : Int32} (hc3 : (h)[r0]? = some (0, fs3)) (hv3 : fs3[1]? = some (.int x3)) (kt : l1 ≤ x3 → SW sc m_X0_shorten d rc rs 14 [some (.ref r0), some (.int l1)] [] h P) (kf : ¬ (l1 ≤ x3) → SW sc m_X0_shorten d rc rs 12 [none, none] [] h P) : SW sc m_X0_shorten d rc rs 4 [some (.ref r0), some (.int l1)] [] h P := by
  refine sw_iload_n dX0_shorten_4 rfl ?_
  refine sw_aload_n dX0_shorten_5 rfl ?_
  refine sw_getf dX0_shorten_6 lf_X0_15 hc3 hv3 ?_
  exact sw_icmp_le dX0_shorten_9 (by decide) (fun q => (kt q)) (fun q => (sw_fg [true, true] rfl (kf q)))
theorem b_X0_shorten_12  (hP : P (.inl (some (.int 0))) h) : SW sc m_X0_shorten d rc rs 12 [none, none] [] h P := by
  refine sw_iconst (v := 0) dX0_shorten_12 (by decide) ?_
  exact sw_ret (v := (some (.int 0))) dX0_shorten_13 (rt_n (by decide)) hP
theorem b_X0_shorten_14 {r0 : Nat} {l1 : Int32} {fs3 : List Value} (hc3 : (h)[r0]? = some (0, fs3)) (hk3 : 1 < fs3.length) (hP : P (.inl (some (.int 1))) ((h).set r0 (0, fs3.set 1 (.int l1)))) : SW sc m_X0_shorten d rc rs 14 [some (.ref r0), some (.int l1)] [] h P := by
  refine sw_aload_n dX0_shorten_14 rfl ?_
  refine sw_iload_n dX0_shorten_15 rfl ?_
  refine sw_putf dX0_shorten_16 lp_X0_15 hc3 hk3 (fun _ _ => ⟨rfl, rfl⟩) ?_
  refine sw_iconst (v := 1) dX0_shorten_19 (by decide) ?_
  exact sw_ret (v := (some (.int 1))) dX0_shorten_20 (rt_n (by decide)) hP
theorem b_X0_put_0 {r0 : Nat} {l1 : Int32} {fs2 : List Value} {x2 : Int32} (hc2 : (h)[r0]? = some (0, fs2)) (hv2 : fs2[1]? = some (.int x2)) (kt : 400 ≤ x2 → SW sc m_X0_put d rc rs 31 [none, none] [] h P) (kf : ¬ (400 ≤ x2) → SW sc m_X0_put d rc rs 10 [some (.ref r0), some (.int l1)] [] h P) : SW sc m_X0_put d rc rs 0 [some (.ref r0), some (.int l1)] [] h P := by
  refine sw_aload_n dX0_put_0 rfl ?_
  refine sw_getf dX0_put_1 lf_X0_15 hc2 hv2 ?_
  refine sw_sipush (v := 400) dX0_put_4 (by decide) ?_
  exact sw_icmp_ge dX0_put_7 (by decide) (fun q => (sw_fg [true, true] rfl (kt q))) (fun q => (kf q))
theorem b_X0_put_10 {r0 : Nat} {l1 : Int32} {fs2 : List Value} {a2 : Nat} {fs4 : List Value} {x4 : Int32} {vs7 : List Value} {fs10 : List Value} {x10 : Int32} {fs13 : List Value} (hc2 : (h)[r0]? = some (0, fs2)) (hv2 : fs2[0]? = some (.ref a2)) (hc4 : (h)[r0]? = some (0, fs4)) (hv4 : fs4[1]? = some (.int x4)) (hc7 : (h)[a2]? = some (101, vs7)) (ho7 : ¬ x4 < 0) (hl7 : x4.toNatClampNeg < vs7.length) (hc10 : ((h).set a2 (101, vs7.set x4.toNatClampNeg (.int l1.toInt8.toInt32.toInt8.toInt32)))[r0]? = some (0, fs10)) (hv10 : fs10[1]? = some (.int x10)) (hc13 : ((h).set a2 (101, vs7.set x4.toNatClampNeg (.int l1.toInt8.toInt32.toInt8.toInt32)))[r0]? = some (0, fs13)) (hk13 : 1 < fs13.length) (k : SW sc m_X0_put d rc rs 31 [none, none] [] (((h).set a2 (101, vs7.set x4.toNatClampNeg (.int l1.toInt8.toInt32.toInt8.toInt32))).set r0 (0, fs13.set 1 (.int (x10 + 1)))) P) : SW sc m_X0_put d rc rs 10 [some (.ref r0), some (.int l1)] [] h P := by
  refine sw_aload_n dX0_put_10 rfl ?_
  refine sw_getf dX0_put_11 lf_X0_9 hc2 hv2 ?_
  refine sw_aload_n dX0_put_14 rfl ?_
  refine sw_getf dX0_put_15 lf_X0_15 hc4 hv4 ?_
  refine sw_iload_n dX0_put_18 rfl ?_
  refine sw_i2b dX0_put_19 ?_
  refine sw_bast dX0_put_20 hc7 ho7 hl7 ?_
  refine sw_aload_n dX0_put_21 rfl ?_
  refine sw_dup dX0_put_22 (fun _ _ => rfl) ?_
  refine sw_getf dX0_put_23 lf_X0_15 hc10 hv10 ?_
  refine sw_iconst (v := 1) dX0_put_26 (by decide) ?_
  refine sw_iadd dX0_put_27 ?_
  refine sw_putf dX0_put_28 lp_X0_15 hc13 hk13 (fun _ _ => ⟨rfl, rfl⟩) ?_
  exact (sw_fg [true, true] rfl (k))
theorem b_X0_put_31  (hP : P (.inl none) h) : SW sc m_X0_put d rc rs 31 [none, none] [] h P := by
  exact sw_ret (v := none) dX0_put_31 rt_v hP
theorem b_X0_putFour_0 {r0 : Nat} {l1 : Int32} {g5 : ab_H} {fs5 : List Value} {g10 : ab_H} {fs10 : List Value} {g15 : ab_H} {fs15 : List Value} {g18 : ab_H} {fs18 : List Value} (hr5 : (h)[r0]? = some (0, fs5)) (hm5 : MSE m_X0_put d [.ref r0, .int (l1 >>> (24 &&& 31))] h none g5) (hr10 : (g5)[r0]? = some (0, fs10)) (hm10 : MSE m_X0_put d [.ref r0, .int (l1 >>> (16 &&& 31))] g5 none g10) (hr15 : (g10)[r0]? = some (0, fs15)) (hm15 : MSE m_X0_put d [.ref r0, .int (l1 >>> (8 &&& 31))] g10 none g15) (hr18 : (g15)[r0]? = some (0, fs18)) (hm18 : MSE m_X0_put d [.ref r0, .int l1] g15 none g18) (hP : P (.inl none) g18) : SW sc m_X0_putFour (d + 1) rc rs 0 [some (.ref r0), some (.int l1)] [] h P := by
  refine sw_aload_n dX0_putFour_0 rfl ?_
  refine sw_iload_n dX0_putFour_1 rfl ?_
  refine sw_bipush (v := 24) dX0_putFour_2 (by decide) ?_
  refine sw_ishr dX0_putFour_4 ?_
  refine sw_cV (M := m_X0_putFour) dX0_putFour_5 lv_X0_19 hm5 hr5 rfl (by decide) rfl rfl rfl (Nat.le_of_ble_eq_true rfl) (fun _ _ => rfl) rfl ?_
  show SW sc m_X0_putFour _ _ _ 8 [some (.ref r0), some (.int l1)] [] g5 P
  refine sw_aload_n dX0_putFour_8 rfl ?_
  refine sw_iload_n dX0_putFour_9 rfl ?_
  refine sw_bipush (v := 16) dX0_putFour_10 (by decide) ?_
  refine sw_ishr dX0_putFour_12 ?_
  refine sw_cV (M := m_X0_putFour) dX0_putFour_13 lv_X0_19 hm10 hr10 rfl (by decide) rfl rfl rfl (Nat.le_of_ble_eq_true rfl) (fun _ _ => rfl) rfl ?_
  show SW sc m_X0_putFour _ _ _ 16 [some (.ref r0), some (.int l1)] [] g10 P
  refine sw_aload_n dX0_putFour_16 rfl ?_
  refine sw_iload_n dX0_putFour_17 rfl ?_
  refine sw_bipush (v := 8) dX0_putFour_18 (by decide) ?_
  refine sw_ishr dX0_putFour_20 ?_
  refine sw_cV (M := m_X0_putFour) dX0_putFour_21 lv_X0_19 hm15 hr15 rfl (by decide) rfl rfl rfl (Nat.le_of_ble_eq_true rfl) (fun _ _ => rfl) rfl ?_
  show SW sc m_X0_putFour _ _ _ 24 [some (.ref r0), some (.int l1)] [] g15 P
  refine sw_aload_n dX0_putFour_24 rfl ?_
  refine sw_iload_n dX0_putFour_25 rfl ?_
  refine sw_cV (M := m_X0_putFour) dX0_putFour_26 lv_X0_19 hm18 hr18 rfl (by decide) rfl rfl rfl (Nat.le_of_ble_eq_true rfl) (fun _ _ => rfl) rfl ?_
  show SW sc m_X0_putFour _ _ _ 29 [some (.ref r0), some (.int l1)] [] g18 P
  exact sw_ret (v := none) dX0_putFour_29 rt_v hP
theorem b_X0_putStatement_0 {r0 : Nat} {t1 : Nat} {l2 : Int32} {l3 : Int32} (k : SW sc m_X0_putStatement d rc rs 3 [some (.ref r0), some (.retAddr t1), some (.int l2), some (.int l3), some (.int 0)] [] h P) : SW sc m_X0_putStatement d rc rs 0 [some (.ref r0), some (.retAddr t1), some (.int l2), some (.int l3), none] [] h P := by
  refine sw_iconst (v := 0) dX0_putStatement_0 (by decide) ?_
  refine sw_istore dX0_putStatement_1 (by decide) rfl ?_
  show SW sc m_X0_putStatement _ _ _ 3 [some (.ref r0), some (.retAddr t1), some (.int l2), some (.int l3), some (.int 0)] [] h P
  exact (k)
theorem b_X0_putStatement_3 {r0 : Nat} {t1 : Nat} {l2 : Int32} {l3 : Int32} {l4 : Int32} {v3 : Int32} {g3 : ab_H} (ht2 : t1 < 6) (ht3 : t1 < 6) (hm3 : MSE m_J0_length_8abf5 d [.retAddr t1] h (some (.int v3)) g3) (kt : v3 ≤ l4 → SW sc m_X0_putStatement (d + 1) rc rs 28 [some (.ref r0), none, some (.int l2), some (.int l3), none] [] g3 P) (kf : ¬ (v3 ≤ l4) → SW sc m_X0_putStatement (d + 1) rc rs 12 [some (.ref r0), some (.retAddr t1), some (.int l2), some (.int l3), some (.int l4)] [] g3 P) : SW sc m_X0_putStatement (d + 1) rc rs 3 [some (.ref r0), some (.retAddr t1), some (.int l2), some (.int l3), some (.int l4)] [] h P := by
  refine sw_iload dX0_putStatement_3 rfl ?_
  refine sw_aload_nt dX0_putStatement_5 rfl (Or.inl ht2) ?_
  refine sw_cT (M := m_X0_putStatement) dX0_putStatement_6 lv_X0_23 rfl ht3 hm3 rfl rfl (Nat.le_of_ble_eq_true rfl) (fun _ _ => rfl) (fun σ τ v hv => by simp at hv) ?_
  show SW sc m_X0_putStatement _ _ _ 9 [some (.ref r0), some (.retAddr t1), some (.int l2), some (.int l3), some (.int l4)] [.int v3, .int l4] g3 P
  exact sw_icmp_ge dX0_putStatement_9 (by decide) (fun q => (sw_fg [false, true, false, false, true] rfl (kt q))) (fun q => (kf q))
theorem b_X0_putStatement_12 {r0 : Nat} {t1 : Nat} {l2 : Int32} {l3 : Int32} {l4 : Int32} {v4 : Int32} {g4 : ab_H} {g5 : ab_H} {fs5 : List Value} (ht2 : t1 < 6) (ht4 : t1 < 6) (hm4 : MSE m_J0_charAt_5068e d [.retAddr t1, .int l4] h (some (.int v4)) g4) (hr5 : (g4)[r0]? = some (0, fs5)) (hm5 : MSE m_X0_put d [.ref r0, .int v4] g4 none g5) (k : SW sc m_X0_putStatement (d + 1) rc rs 3 [some (.ref r0), some (.retAddr t1), some (.int l2), some (.int l3), some (.int (l4 + 1))] [] g5 P) : SW sc m_X0_putStatement (d + 1) rc rs 12 [some (.ref r0), some (.retAddr t1), some (.int l2), some (.int l3), some (.int l4)] [] h P := by
  refine sw_aload_n dX0_putStatement_12 rfl ?_
  refine sw_aload_nt dX0_putStatement_13 rfl (Or.inl ht2) ?_
  refine sw_iload dX0_putStatement_14 rfl ?_
  refine sw_cT (M := m_X0_putStatement) dX0_putStatement_16 lv_X0_28 rfl ht4 hm4 rfl rfl (Nat.le_of_ble_eq_true rfl) (fun _ _ => rfl) (fun σ τ v hv => by rw [List.mem_singleton.mp hv]; rfl) ?_
  show SW sc m_X0_putStatement _ _ _ 19 [some (.ref r0), some (.retAddr t1), some (.int l2), some (.int l3), some (.int l4)] [.int v4, .ref r0] g4 P
  refine sw_cV (M := m_X0_putStatement) dX0_putStatement_19 lv_X0_19 hm5 hr5 rfl (by decide) rfl rfl rfl (Nat.le_of_ble_eq_true rfl) (fun _ _ => rfl) rfl ?_
  show SW sc m_X0_putStatement _ _ _ 22 [some (.ref r0), some (.retAddr t1), some (.int l2), some (.int l3), some (.int l4)] [] g5 P
  refine sw_iinc (v := l4 + 1) dX0_putStatement_22 rfl rfl (by decide) rfl ?_
  show SW sc m_X0_putStatement _ _ _ 25 [some (.ref r0), some (.retAddr t1), some (.int l2), some (.int l3), some (.int (l4 + 1))] [] g5 P
  exact sw_goto dX0_putStatement_25 (by decide) (k)
theorem b_X0_putStatement_28 {r0 : Nat} {l2 : Int32} {l3 : Int32} {g3 : ab_H} {fs3 : List Value} (hr3 : (h)[r0]? = some (0, fs3)) (hm3 : MSE m_X0_putNumber d [.ref r0, .int l2] h none g3) (kt : l3 = (-1) → SW sc m_X0_putStatement (d + 1) rc rs 43 [some (.ref r0), none, none, none, none] [] g3 P) (kf : ¬ (l3 = (-1)) → SW sc m_X0_putStatement (d + 1) rc rs 38 [some (.ref r0), none, none, some (.int l3), none] [] g3 P) : SW sc m_X0_putStatement (d + 1) rc rs 28 [some (.ref r0), none, some (.int l2), some (.int l3), none] [] h P := by
  refine sw_aload_n dX0_putStatement_28 rfl ?_
  refine sw_iload_n dX0_putStatement_29 rfl ?_
  refine sw_cV (M := m_X0_putStatement) dX0_putStatement_30 lv_X0_32 hm3 hr3 rfl (by decide) rfl rfl rfl (Nat.le_of_ble_eq_true rfl) (fun _ _ => rfl) rfl ?_
  show SW sc m_X0_putStatement _ _ _ 33 [some (.ref r0), none, some (.int l2), some (.int l3), none] [] g3 P
  refine sw_iload_n dX0_putStatement_33 rfl ?_
  refine sw_iconst (v := (-1)) dX0_putStatement_34 (by decide) ?_
  exact sw_icmp_eq dX0_putStatement_35 (by decide) (fun q => (sw_fg [false, false, true, true, false] rfl (kt q))) (fun q => (sw_fg [false, false, true, false, false] rfl (kf q)))
theorem b_X0_putStatement_38 {r0 : Nat} {l3 : Int32} {g3 : ab_H} {fs3 : List Value} (hr3 : (h)[r0]? = some (0, fs3)) (hm3 : MSE m_X0_putNumber d [.ref r0, .int l3] h none g3) (k : SW sc m_X0_putStatement (d + 1) rc rs 43 [some (.ref r0), none, none, none, none] [] g3 P) : SW sc m_X0_putStatement (d + 1) rc rs 38 [some (.ref r0), none, none, some (.int l3), none] [] h P := by
  refine sw_aload_n dX0_putStatement_38 rfl ?_
  refine sw_iload_n dX0_putStatement_39 rfl ?_
  refine sw_cV (M := m_X0_putStatement) dX0_putStatement_40 lv_X0_32 hm3 hr3 rfl (by decide) rfl rfl rfl (Nat.le_of_ble_eq_true rfl) (fun _ _ => rfl) rfl ?_
  show SW sc m_X0_putStatement _ _ _ 43 [some (.ref r0), none, none, some (.int l3), none] [] g3 P
  exact (sw_fg [false, false, false, true, false] rfl (k))
theorem b_X0_putStatement_43 {r0 : Nat} {g3 : ab_H} {fs3 : List Value} (hr3 : (h)[r0]? = some (0, fs3)) (hm3 : MSE m_X0_put d [.ref r0, .int 59] h none g3) (hP : P (.inl none) g3) : SW sc m_X0_putStatement (d + 1) rc rs 43 [some (.ref r0), none, none, none, none] [] h P := by
  refine sw_aload_n dX0_putStatement_43 rfl ?_
  refine sw_bipush (v := 59) dX0_putStatement_44 (by decide) ?_
  refine sw_cV (M := m_X0_putStatement) dX0_putStatement_46 lv_X0_19 hm3 hr3 rfl (by decide) rfl rfl rfl (Nat.le_of_ble_eq_true rfl) (fun _ _ => rfl) rfl ?_
  show SW sc m_X0_putStatement _ _ _ 49 [some (.ref r0), none, none, none, none] [] g3 P
  exact sw_ret (v := none) dX0_putStatement_49 rt_v hP
theorem b_X0_putNumber_0 {r0 : Nat} {l1 : Int32} {g3 : ab_H} {fs3 : List Value} (hr3 : (h)[r0]? = some (0, fs3)) (hm3 : MSE m_X0_put d [.ref r0, .int 32] h none g3) (kt : l1 ≤ 9 → SW sc m_X0_putNumber (d + 1) rc rs 23 [some (.ref r0), some (.int l1)] [] g3 P) (kf : ¬ (l1 ≤ 9) → SW sc m_X0_putNumber (d + 1) rc rs 12 [some (.ref r0), some (.int l1)] [] g3 P) : SW sc m_X0_putNumber (d + 1) rc rs 0 [some (.ref r0), some (.int l1)] [] h P := by
  refine sw_aload_n dX0_putNumber_0 rfl ?_
  refine sw_bipush (v := 32) dX0_putNumber_1 (by decide) ?_
  refine sw_cV (M := m_X0_putNumber) dX0_putNumber_3 lv_X0_19 hm3 hr3 rfl (by decide) rfl rfl rfl (Nat.le_of_ble_eq_true rfl) (fun _ _ => rfl) rfl ?_
  show SW sc m_X0_putNumber _ _ _ 6 [some (.ref r0), some (.int l1)] [] g3 P
  refine sw_iload_n dX0_putNumber_6 rfl ?_
  refine sw_bipush (v := 9) dX0_putNumber_7 (by decide) ?_
  exact sw_icmp_le dX0_putNumber_9 (by decide) (fun q => (kt q)) (fun q => (kf q))
theorem b_X0_putNumber_12 {r0 : Nat} {l1 : Int32} {g7 : ab_H} {fs7 : List Value} (hz5 : ¬ (10 : Int32) = 0) (hr7 : (h)[r0]? = some (0, fs7)) (hm7 : MSE m_X0_put d [.ref r0, .int (48 + (l1 / 10))] h none g7) (k : SW sc m_X0_putNumber (d + 1) rc rs 23 [some (.ref r0), some (.int l1)] [] g7 P) : SW sc m_X0_putNumber (d + 1) rc rs 12 [some (.ref r0), some (.int l1)] [] h P := by
  refine sw_aload_n dX0_putNumber_12 rfl ?_
  refine sw_bipush (v := 48) dX0_putNumber_13 (by decide) ?_
  refine sw_iload_n dX0_putNumber_15 rfl ?_
  refine sw_bipush (v := 10) dX0_putNumber_16 (by decide) ?_
  refine sw_idiv dX0_putNumber_18 hz5 ?_
  refine sw_iadd dX0_putNumber_19 ?_
  refine sw_cV (M := m_X0_putNumber) dX0_putNumber_20 lv_X0_19 hm7 hr7 rfl (by decide) rfl rfl rfl (Nat.le_of_ble_eq_true rfl) (fun _ _ => rfl) rfl ?_
  show SW sc m_X0_putNumber _ _ _ 23 [some (.ref r0), some (.int l1)] [] g7 P
  exact (k)
theorem b_X0_putNumber_23 {r0 : Nat} {l1 : Int32} {g7 : ab_H} {fs7 : List Value} (hz5 : ¬ (10 : Int32) = 0) (hr7 : (h)[r0]? = some (0, fs7)) (hm7 : MSE m_X0_put d [.ref r0, .int (48 + (l1 - l1 / 10 * 10))] h none g7) (hP : P (.inl none) g7) : SW sc m_X0_putNumber (d + 1) rc rs 23 [some (.ref r0), some (.int l1)] [] h P := by
  refine sw_aload_n dX0_putNumber_23 rfl ?_
  refine sw_bipush (v := 48) dX0_putNumber_24 (by decide) ?_
  refine sw_iload_n dX0_putNumber_26 rfl ?_
  refine sw_bipush (v := 10) dX0_putNumber_27 (by decide) ?_
  refine sw_irem dX0_putNumber_29 hz5 ?_
  refine sw_iadd dX0_putNumber_30 ?_
  refine sw_cV (M := m_X0_putNumber) dX0_putNumber_31 lv_X0_19 hm7 hr7 rfl (by decide) rfl rfl rfl (Nat.le_of_ble_eq_true rfl) (fun _ _ => rfl) rfl ?_
  show SW sc m_X0_putNumber _ _ _ 34 [some (.ref r0), some (.int l1)] [] g7 P
  exact sw_ret (v := none) dX0_putNumber_34 rt_v hP
theorem b_X1_number_0 {r0 : Nat} {l1 : Int32} (kt : l1 < 0 → SW sc m_X1_number d rc rs 19 [none, none] [] h P) (kf : ¬ (l1 < 0) → SW sc m_X1_number d rc rs 4 [some (.ref r0), some (.int l1)] [] h P) : SW sc m_X1_number d rc rs 0 [some (.ref r0), some (.int l1)] [] h P := by
  refine sw_iload_n dX1_number_0 rfl ?_
  exact sw_if_lt dX1_number_1 (by decide) (fun q => (sw_fg [true, true] rfl (kt q))) (fun q => (kf q))
theorem b_X1_number_4 {r0 : Nat} {l1 : Int32} (kt : 10 ≤ l1 → SW sc m_X1_number d rc rs 19 [none, none] [] h P) (kf : ¬ (10 ≤ l1) → SW sc m_X1_number d rc rs 10 [some (.ref r0), some (.int l1)] [] h P) : SW sc m_X1_number d rc rs 4 [some (.ref r0), some (.int l1)] [] h P := by
  refine sw_iload_n dX1_number_4 rfl ?_
  refine sw_bipush (v := 10) dX1_number_5 (by decide) ?_
  exact sw_icmp_ge dX1_number_7 (by decide) (fun q => (sw_fg [true, true] rfl (kt q))) (fun q => (kf q))
theorem b_X1_number_10 {r0 : Nat} {l1 : Int32} {fs2 : List Value} {a2 : Nat} {vs4 : List Value} {x4 : Int32} (hc2 : (h)[r0]? = some (1, fs2)) (hv2 : fs2[0]? = some (.ref a2)) (hc4 : (h)[a2]? = some (100, vs4)) (ho4 : ¬ l1 < 0) (hi4 : vs4[l1.toNatClampNeg]? = some (.int x4)) (k : SW sc m_X1_number d rc rs 20 [none, none] [.int x4] h P) : SW sc m_X1_number d rc rs 10 [some (.ref r0), some (.int l1)] [] h P := by
  refine sw_aload_n dX1_number_10 rfl ?_
  refine sw_getf dX1_number_11 lf_X1_9 hc2 hv2 ?_
  refine sw_iload_n dX1_number_14 rfl ?_
  refine sw_iald dX1_number_15 hc4 ho4 hi4 ?_
  exact sw_goto dX1_number_16 (by decide) (sw_fg [true, true] rfl (k))
theorem b_X1_number_19  (k : SW sc m_X1_number d rc rs 20 [none, none] [.int (-1)] h P) : SW sc m_X1_number d rc rs 19 [none, none] [] h P := by
  refine sw_iconst (v := (-1)) dX1_number_19 (by decide) ?_
  exact (k)
theorem b_X1_number_20 {s0 : Int32} (hP : P (.inl (some (.int s0))) h) : SW sc m_X1_number d rc rs 20 [none, none] [.int s0] h P := by
  exact sw_ret (v := (some (.int s0))) dX1_number_20 rt_i hP
theorem b_X1_setNumber_0 {r0 : Nat} {l1 : Int32} {l2 : Int32} (kt : l1 < 0 → SW sc m_X1_setNumber d rc rs 17 [none, none, none] [] h P) (kf : ¬ (l1 < 0) → SW sc m_X1_setNumber d rc rs 4 [some (.ref r0), some (.int l1), some (.int l2)] [] h P) : SW sc m_X1_setNumber d rc rs 0 [some (.ref r0), some (.int l1), some (.int l2)] [] h P := by
  refine sw_iload_n dX1_setNumber_0 rfl ?_
  exact sw_if_lt dX1_setNumber_1 (by decide) (fun q => (sw_fg [true, true, true] rfl (kt q))) (fun q => (kf q))
theorem b_X1_setNumber_4 {r0 : Nat} {l1 : Int32} {l2 : Int32} (kt : 10 ≤ l1 → SW sc m_X1_setNumber d rc rs 17 [none, none, none] [] h P) (kf : ¬ (10 ≤ l1) → SW sc m_X1_setNumber d rc rs 10 [some (.ref r0), some (.int l1), some (.int l2)] [] h P) : SW sc m_X1_setNumber d rc rs 4 [some (.ref r0), some (.int l1), some (.int l2)] [] h P := by
  refine sw_iload_n dX1_setNumber_4 rfl ?_
  refine sw_bipush (v := 10) dX1_setNumber_5 (by decide) ?_
  exact sw_icmp_ge dX1_setNumber_7 (by decide) (fun q => (sw_fg [true, true, true] rfl (kt q))) (fun q => (kf q))
theorem b_X1_setNumber_10 {r0 : Nat} {l1 : Int32} {l2 : Int32} {fs2 : List Value} {a2 : Nat} {vs5 : List Value} (hc2 : (h)[r0]? = some (1, fs2)) (hv2 : fs2[0]? = some (.ref a2)) (hc5 : (h)[a2]? = some (100, vs5)) (ho5 : ¬ l1 < 0) (hl5 : l1.toNatClampNeg < vs5.length) (k : SW sc m_X1_setNumber d rc rs 17 [none, none, none] [] ((h).set a2 (100, vs5.set l1.toNatClampNeg (.int l2))) P) : SW sc m_X1_setNumber d rc rs 10 [some (.ref r0), some (.int l1), some (.int l2)] [] h P := by
  refine sw_aload_n dX1_setNumber_10 rfl ?_
  refine sw_getf dX1_setNumber_11 lf_X1_9 hc2 hv2 ?_
  refine sw_iload_n dX1_setNumber_14 rfl ?_
  refine sw_iload_n dX1_setNumber_15 rfl ?_
  refine sw_iast dX1_setNumber_16 hc5 ho5 hl5 ?_
  exact (sw_fg [true, true, true] rfl (k))
theorem b_X1_setNumber_17  (hP : P (.inl none) h) : SW sc m_X1_setNumber d rc rs 17 [none, none, none] [] h P := by
  exact sw_ret (v := none) dX1_setNumber_17 rt_v hP
theorem b_X1_take_0 {r0 : Nat} {r1 : Nat} {v2 : Int32} {g2 : ab_H} {fs2 : List Value} (hr2 : (h)[r1]? = some (3, fs2)) (hm2 : MSE m_X3_all d [.ref r1] h (some (.int v2)) g2) (k : SW sc m_X1_take (d + 1) rc rs 7 [some (.ref r0), some (.ref r1), some (.int v2), some (.int 0), none] [] g2 P) : SW sc m_X1_take (d + 1) rc rs 0 [some (.ref r0), some (.ref r1), none, none, none] [] h P := by
  refine sw_aload_n dX1_take_0 rfl ?_
  refine sw_cV (M := m_X1_take) dX1_take_1 lv_X1_15 hm2 hr2 rfl (by decide) rfl rfl rfl (Nat.le_of_ble_eq_true rfl) (fun _ _ => rfl) rfl ?_
  show SW sc m_X1_take _ _ _ 4 [some (.ref r0), some (.ref r1), none, none, none] [.int v2] g2 P
  refine sw_istore_n dX1_take_4 (by decide) rfl ?_
  show SW sc m_X1_take _ _ _ 5 [some (.ref r0), some (.ref r1), some (.int v2), none, none] [] g2 P
  refine sw_iconst (v := 0) dX1_take_5 (by decide) ?_
  refine sw_istore_n dX1_take_6 (by decide) rfl ?_
  show SW sc m_X1_take _ _ _ 7 [some (.ref r0), some (.ref r1), some (.int v2), some (.int 0), none] [] g2 P
  exact (k)
theorem b_X1_take_7 {r0 : Nat} {r1 : Nat} {l2 : Int32} {l3 : Int32} {fs3 : List Value} {x3 : Int32} {v4 : Int32} {g4 : ab_H} (hc3 : (h)[r1]? = some (3, fs3)) (hv3 : fs3[2]? = some (.int x3)) (hm4 : MSE m_X9_codeLength d [.int x3] h (some (.int v4)) g4) (kt : v4 ≤ l3 → SW sc m_X1_take (d + 1) rc rs 54 [none, none, none, none, none] [] g4 P) (kf : ¬ (v4 ≤ l3) → SW sc m_X1_take (d + 1) rc rs 18 [some (.ref r0), some (.ref r1), some (.int l2), some (.int l3), none] [] g4 P) : SW sc m_X1_take (d + 1) rc rs 7 [some (.ref r0), some (.ref r1), some (.int l2), some (.int l3), none] [] h P := by
  refine sw_iload_n dX1_take_7 rfl ?_
  refine sw_aload_n dX1_take_8 rfl ?_
  refine sw_getf dX1_take_9 lf_X1_21 hc3 hv3 ?_
  refine sw_cS (M := m_X1_take) dX1_take_12 ls_X1_25 hm4 rfl rfl (Nat.le_of_ble_eq_true rfl) (fun _ _ => rfl) rfl ?_
  show SW sc m_X1_take _ _ _ 15 [some (.ref r0), some (.ref r1), some (.int l2), some (.int l3), none] [.int v4, .int l3] g4 P
  exact sw_icmp_ge dX1_take_15 (by decide) (fun q => (sw_fg [true, true, true, true, false] rfl (kt q))) (fun q => (kf q))
theorem b_X1_take_18 {r0 : Nat} {r1 : Nat} {l2 : Int32} {l3 : Int32} {v3 : Int32} {g3 : ab_H} {v9 : Int32} {g9 : ab_H} {fs9 : List Value} {v12 : Int32} {g12 : ab_H} {g13 : ab_H} {fs13 : List Value} {v16 : Int32} {g16 : ab_H} (hm3 : MSE m_X1_lowestLeaf d [.ref r1, .int l2] h (some (.int v3)) g3) (hr9 : (g3)[r1]? = some (3, fs9)) (hm9 : MSE m_X3_nearOf d [.ref r1, .int v3] g3 (some (.int v9)) g9) (hm12 : MSE m_X9_lowest d [.int (v9 &&& l2)] g9 (some (.int v12)) g12) (hr13 : (g12)[r0]? = some (1, fs13)) (hm13 : MSE m_X1_setNumber d [.ref r0, .int l3, .int v12] g12 none g13) (hm16 : MSE m_X9_without d [.int l2, .int v3] g13 (some (.int v16)) g16) (k : SW sc m_X1_take (d + 1) rc rs 7 [some (.ref r0), some (.ref r1), some (.int v16), some (.int (l3 + 1)), none] [] g16 P) : SW sc m_X1_take (d + 1) rc rs 18 [some (.ref r0), some (.ref r1), some (.int l2), some (.int l3), none] [] h P := by
  refine sw_aload_n dX1_take_18 rfl ?_
  refine sw_iload_n dX1_take_19 rfl ?_
  refine sw_cS (M := m_X1_take) dX1_take_20 ls_X1_29 hm3 rfl rfl (Nat.le_of_ble_eq_true rfl) (fun _ _ => rfl) rfl ?_
  show SW sc m_X1_take _ _ _ 23 [some (.ref r0), some (.ref r1), some (.int l2), some (.int l3), none] [.int v3] g3 P
  refine sw_istore dX1_take_23 (by decide) rfl ?_
  show SW sc m_X1_take _ _ _ 25 [some (.ref r0), some (.ref r1), some (.int l2), some (.int l3), some (.int v3)] [] g3 P
  refine sw_aload_n dX1_take_25 rfl ?_
  refine sw_iload_n dX1_take_26 rfl ?_
  refine sw_aload_n dX1_take_27 rfl ?_
  refine sw_iload dX1_take_28 rfl ?_
  refine sw_cV (M := m_X1_take) dX1_take_30 lv_X1_33 hm9 hr9 rfl (by decide) rfl rfl rfl (Nat.le_of_ble_eq_true rfl) (fun _ _ => rfl) rfl ?_
  show SW sc m_X1_take _ _ _ 33 [some (.ref r0), some (.ref r1), some (.int l2), some (.int l3), some (.int v3)] [.int v9, .int l3, .ref r0] g9 P
  refine sw_iload_n dX1_take_33 rfl ?_
  refine sw_iand dX1_take_34 ?_
  refine sw_cS (M := m_X1_take) dX1_take_35 ls_X1_36 hm12 rfl rfl (Nat.le_of_ble_eq_true rfl) (fun _ _ => rfl) rfl ?_
  show SW sc m_X1_take _ _ _ 38 [some (.ref r0), some (.ref r1), some (.int l2), some (.int l3), some (.int v3)] [.int v12, .int l3, .ref r0] g12 P
  refine sw_cV (M := m_X1_take) dX1_take_38 lv_X1_39 hm13 hr13 rfl (by decide) rfl rfl rfl (Nat.le_of_ble_eq_true rfl) (fun _ _ => rfl) rfl ?_
  show SW sc m_X1_take _ _ _ 41 [some (.ref r0), some (.ref r1), some (.int l2), some (.int l3), some (.int v3)] [] g13 P
  refine sw_iload_n dX1_take_41 rfl ?_
  refine sw_iload dX1_take_42 rfl ?_
  refine sw_cS (M := m_X1_take) dX1_take_44 ls_X1_43 hm16 rfl rfl (Nat.le_of_ble_eq_true rfl) (fun _ _ => rfl) rfl ?_
  show SW sc m_X1_take _ _ _ 47 [some (.ref r0), some (.ref r1), some (.int l2), some (.int l3), some (.int v3)] [.int v16] g16 P
  refine sw_istore_n dX1_take_47 (by decide) rfl ?_
  show SW sc m_X1_take _ _ _ 48 [some (.ref r0), some (.ref r1), some (.int v16), some (.int l3), some (.int v3)] [] g16 P
  refine sw_iinc (v := l3 + 1) dX1_take_48 rfl rfl (by decide) rfl ?_
  show SW sc m_X1_take _ _ _ 51 [some (.ref r0), some (.ref r1), some (.int v16), some (.int (l3 + 1)), some (.int v3)] [] g16 P
  exact sw_goto dX1_take_51 (by decide) (sw_fg [false, false, false, false, true] rfl (k))
theorem b_X1_take_54  (hP : P (.inl none) h) : SW sc m_X1_take d rc rs 54 [none, none, none, none, none] [] h P := by
  exact sw_ret (v := none) dX1_take_54 rt_v hP
theorem b_X1_lowestLeaf_0 {r0 : Nat} {l1 : Int32} (k : SW sc m_X1_lowestLeaf d rc rs 2 [some (.ref r0), some (.int l1), some (.int 0)] [] h P) : SW sc m_X1_lowestLeaf d rc rs 0 [some (.ref r0), some (.int l1), none] [] h P := by
  refine sw_iconst (v := 0) dX1_lowestLeaf_0 (by decide) ?_
  refine sw_istore_n dX1_lowestLeaf_1 (by decide) rfl ?_
  show SW sc m_X1_lowestLeaf _ _ _ 2 [some (.ref r0), some (.int l1), some (.int 0)] [] h P
  exact (k)
theorem b_X1_lowestLeaf_2 {r0 : Nat} {l1 : Int32} {l2 : Int32} {fs3 : List Value} {x3 : Int32} (hc3 : (h)[r0]? = some (3, fs3)) (hv3 : fs3[2]? = some (.int x3)) (kt : x3 ≤ l2 → SW sc m_X1_lowestLeaf d rc rs 40 [none, none, none] [] h P) (kf : ¬ (x3 ≤ l2) → SW sc m_X1_lowestLeaf d rc rs 10 [some (.ref r0), some (.int l1), some (.int l2)] [] h P) : SW sc m_X1_lowestLeaf d rc rs 2 [some (.ref r0), some (.int l1), some (.int l2)] [] h P := by
  refine sw_iload_n dX1_lowestLeaf_2 rfl ?_
  refine sw_aload_n dX1_lowestLeaf_3 rfl ?_
  refine sw_getf dX1_lowestLeaf_4 lf_X1_21 hc3 hv3 ?_
  exact sw_icmp_ge dX1_lowestLeaf_7 (by decide) (fun q => (sw_fg [true, true, true] rfl (kt q))) (fun q => (kf q))
theorem b_X1_lowestLeaf_10 {r0 : Nat} {l1 : Int32} {l2 : Int32} {v3 : Int32} {g3 : ab_H} (hm3 : MSE m_X9_holds d [.int l1, .int l2] h (some (.int v3)) g3) (kt : v3 = 0 → SW sc m_X1_lowestLeaf (d + 1) rc rs 34 [some (.ref r0), some (.int l1), some (.int l2)] [] g3 P) (kf : ¬ (v3 = 0) → SW sc m_X1_lowestLeaf (d + 1) rc rs 18 [some (.ref r0), some (.int l1), some (.int l2)] [] g3 P) : SW sc m_X1_lowestLeaf (d + 1) rc rs 10 [some (.ref r0), some (.int l1), some (.int l2)] [] h P := by
  refine sw_iload_n dX1_lowestLeaf_10 rfl ?_
  refine sw_iload_n dX1_lowestLeaf_11 rfl ?_
  refine sw_cS (M := m_X1_lowestLeaf) dX1_lowestLeaf_12 ls_X1_47 hm3 rfl rfl (Nat.le_of_ble_eq_true rfl) (fun _ _ => rfl) rfl ?_
  show SW sc m_X1_lowestLeaf _ _ _ 15 [some (.ref r0), some (.int l1), some (.int l2)] [.int v3] g3 P
  exact sw_if_eq dX1_lowestLeaf_15 (by decide) (fun q => (kt q)) (fun q => (kf q))
theorem b_X1_lowestLeaf_18 {r0 : Nat} {l1 : Int32} {l2 : Int32} {v3 : Int32} {g3 : ab_H} {fs3 : List Value} {v6 : Int32} {g6 : ab_H} (hr3 : (h)[r0]? = some (3, fs3)) (hm3 : MSE m_X3_nearOf d [.ref r0, .int l2] h (some (.int v3)) g3) (hm6 : MSE m_J6_bitCount_0f7a4 d [.int (v3 &&& l1)] g3 (some (.int v6)) g6) (kt : ¬ v6 = 1 → SW sc m_X1_lowestLeaf (d + 1) rc rs 34 [some (.ref r0), some (.int l1), some (.int l2)] [] g6 P) (kf : v6 = 1 → SW sc m_X1_lowestLeaf (d + 1) rc rs 32 [none, none, some (.int l2)] [] g6 P) : SW sc m_X1_lowestLeaf (d + 1) rc rs 18 [some (.ref r0), some (.int l1), some (.int l2)] [] h P := by
  refine sw_aload_n dX1_lowestLeaf_18 rfl ?_
  refine sw_iload_n dX1_lowestLeaf_19 rfl ?_
  refine sw_cV (M := m_X1_lowestLeaf) dX1_lowestLeaf_20 lv_X1_33 hm3 hr3 rfl (by decide) rfl rfl rfl (Nat.le_of_ble_eq_true rfl) (fun _ _ => rfl) rfl ?_
  show SW sc m_X1_lowestLeaf _ _ _ 23 [some (.ref r0), some (.int l1), some (.int l2)] [.int v3] g3 P
  refine sw_iload_n dX1_lowestLeaf_23 rfl ?_
  refine sw_iand dX1_lowestLeaf_24 ?_
  refine sw_cS (M := m_X1_lowestLeaf) dX1_lowestLeaf_25 ls_X1_51 hm6 rfl rfl (Nat.le_of_ble_eq_true rfl) (fun _ _ => rfl) rfl ?_
  show SW sc m_X1_lowestLeaf _ _ _ 28 [some (.ref r0), some (.int l1), some (.int l2)] [.int v6] g6 P
  refine sw_iconst (v := 1) dX1_lowestLeaf_28 (by decide) ?_
  exact sw_icmp_ne dX1_lowestLeaf_29 (by decide) (fun q => (kt q)) (fun q => (sw_fg [true, true, false] rfl (kf q)))
theorem b_X1_lowestLeaf_32 {l2 : Int32} (hP : P (.inl (some (.int l2))) h) : SW sc m_X1_lowestLeaf d rc rs 32 [none, none, some (.int l2)] [] h P := by
  refine sw_iload_n dX1_lowestLeaf_32 rfl ?_
  exact sw_ret (v := (some (.int l2))) dX1_lowestLeaf_33 rt_i hP
theorem b_X1_lowestLeaf_34 {r0 : Nat} {l1 : Int32} {l2 : Int32} (k : SW sc m_X1_lowestLeaf d rc rs 2 [some (.ref r0), some (.int l1), some (.int (l2 + 1))] [] h P) : SW sc m_X1_lowestLeaf d rc rs 34 [some (.ref r0), some (.int l1), some (.int l2)] [] h P := by
  refine sw_iinc (v := l2 + 1) dX1_lowestLeaf_34 rfl rfl (by decide) rfl ?_
  show SW sc m_X1_lowestLeaf _ _ _ 37 [some (.ref r0), some (.int l1), some (.int (l2 + 1))] [] h P
  exact sw_goto dX1_lowestLeaf_37 (by decide) (k)
theorem b_X1_lowestLeaf_40  (hP : P (.inl (some (.int (-1)))) h) : SW sc m_X1_lowestLeaf d rc rs 40 [none, none, none] [] h P := by
  refine sw_iconst (v := (-1)) dX1_lowestLeaf_40 (by decide) ?_
  exact sw_ret (v := (some (.int (-1)))) dX1_lowestLeaf_41 rt_i hP
theorem b_X1_rankOf_0 {r0 : Nat} {r1 : Nat} {g3 : ab_H} {fs3 : List Value} (hr3 : (h)[r0]? = some (1, fs3)) (hm3 : MSE m_X1_take d [.ref r0, .ref r1] h none g3) (k : SW sc m_X1_rankOf (d + 1) rc rs 9 [some (.ref r0), some (.ref r1), some (.int 0), some (.int 0)] [] g3 P) : SW sc m_X1_rankOf (d + 1) rc rs 0 [some (.ref r0), some (.ref r1), none, none] [] h P := by
  refine sw_aload_n dX1_rankOf_0 rfl ?_
  refine sw_aload_n dX1_rankOf_1 rfl ?_
  refine sw_cV (M := m_X1_rankOf) dX1_rankOf_2 lv_X1_56 hm3 hr3 rfl (by decide) rfl rfl rfl (Nat.le_of_ble_eq_true rfl) (fun _ _ => rfl) rfl ?_
  show SW sc m_X1_rankOf _ _ _ 5 [some (.ref r0), some (.ref r1), none, none] [] g3 P
  refine sw_iconst (v := 0) dX1_rankOf_5 (by decide) ?_
  refine sw_istore_n dX1_rankOf_6 (by decide) rfl ?_
  show SW sc m_X1_rankOf _ _ _ 7 [some (.ref r0), some (.ref r1), some (.int 0), none] [] g3 P
  refine sw_iconst (v := 0) dX1_rankOf_7 (by decide) ?_
  refine sw_istore_n dX1_rankOf_8 (by decide) rfl ?_
  show SW sc m_X1_rankOf _ _ _ 9 [some (.ref r0), some (.ref r1), some (.int 0), some (.int 0)] [] g3 P
  exact (k)
theorem b_X1_rankOf_9 {r0 : Nat} {r1 : Nat} {l2 : Int32} {l3 : Int32} {fs3 : List Value} {x3 : Int32} {v4 : Int32} {g4 : ab_H} (hc3 : (h)[r1]? = some (3, fs3)) (hv3 : fs3[2]? = some (.int x3)) (hm4 : MSE m_X9_codeLength d [.int x3] h (some (.int v4)) g4) (kt : v4 ≤ l3 → SW sc m_X1_rankOf (d + 1) rc rs 39 [none, none, some (.int l2), none] [] g4 P) (kf : ¬ (v4 ≤ l3) → SW sc m_X1_rankOf (d + 1) rc rs 20 [some (.ref r0), some (.ref r1), some (.int l2), some (.int l3)] [] g4 P) : SW sc m_X1_rankOf (d + 1) rc rs 9 [some (.ref r0), some (.ref r1), some (.int l2), some (.int l3)] [] h P := by
  refine sw_iload_n dX1_rankOf_9 rfl ?_
  refine sw_aload_n dX1_rankOf_10 rfl ?_
  refine sw_getf dX1_rankOf_11 lf_X1_21 hc3 hv3 ?_
  refine sw_cS (M := m_X1_rankOf) dX1_rankOf_14 ls_X1_25 hm4 rfl rfl (Nat.le_of_ble_eq_true rfl) (fun _ _ => rfl) rfl ?_
  show SW sc m_X1_rankOf _ _ _ 17 [some (.ref r0), some (.ref r1), some (.int l2), some (.int l3)] [.int v4, .int l3] g4 P
  exact sw_icmp_ge dX1_rankOf_17 (by decide) (fun q => (sw_fg [true, true, false, true] rfl (kt q))) (fun q => (kf q))
theorem b_X1_rankOf_20 {r0 : Nat} {r1 : Nat} {l2 : Int32} {l3 : Int32} {fs3 : List Value} {x3 : Int32} {v7 : Int32} {g7 : ab_H} {fs7 : List Value} (hc3 : (h)[r1]? = some (3, fs3)) (hv3 : fs3[2]? = some (.int x3)) (hr7 : (h)[r0]? = some (1, fs7)) (hm7 : MSE m_X1_number d [.ref r0, .int l3] h (some (.int v7)) g7) (k : SW sc m_X1_rankOf (d + 1) rc rs 9 [some (.ref r0), some (.ref r1), some (.int ((l2 * x3) + v7)), some (.int (l3 + 1))] [] g7 P) : SW sc m_X1_rankOf (d + 1) rc rs 20 [some (.ref r0), some (.ref r1), some (.int l2), some (.int l3)] [] h P := by
  refine sw_iload_n dX1_rankOf_20 rfl ?_
  refine sw_aload_n dX1_rankOf_21 rfl ?_
  refine sw_getf dX1_rankOf_22 lf_X1_21 hc3 hv3 ?_
  refine sw_imul dX1_rankOf_25 ?_
  refine sw_aload_n dX1_rankOf_26 rfl ?_
  refine sw_iload_n dX1_rankOf_27 rfl ?_
  refine sw_cV (M := m_X1_rankOf) dX1_rankOf_28 lv_X1_60 hm7 hr7 rfl (by decide) rfl rfl rfl (Nat.le_of_ble_eq_true rfl) (fun _ _ => rfl) rfl ?_
  show SW sc m_X1_rankOf _ _ _ 31 [some (.ref r0), some (.ref r1), some (.int l2), some (.int l3)] [.int v7, .int (l2 * x3)] g7 P
  refine sw_iadd dX1_rankOf_31 ?_
  refine sw_istore_n dX1_rankOf_32 (by decide) rfl ?_
  show SW sc m_X1_rankOf _ _ _ 33 [some (.ref r0), some (.ref r1), some (.int ((l2 * x3) + v7)), some (.int l3)] [] g7 P
  refine sw_iinc (v := l3 + 1) dX1_rankOf_33 rfl rfl (by decide) rfl ?_
  show SW sc m_X1_rankOf _ _ _ 36 [some (.ref r0), some (.ref r1), some (.int ((l2 * x3) + v7)), some (.int (l3 + 1))] [] g7 P
  exact sw_goto dX1_rankOf_36 (by decide) (k)
theorem b_X1_rankOf_39 {l2 : Int32} (hP : P (.inl (some (.int l2))) h) : SW sc m_X1_rankOf d rc rs 39 [none, none, some (.int l2), none] [] h P := by
  refine sw_iload_n dX1_rankOf_39 rfl ?_
  exact sw_ret (v := (some (.int l2))) dX1_rankOf_40 rt_i hP
theorem b_X1_setRank_0 {r0 : Nat} {l1 : Int32} {l2 : Int32} {v4 : Int32} {g4 : ab_H} (hm4 : MSE m_X9_codeLength d [.int l1] h (some (.int v4)) g4) (k : SW sc m_X1_setRank (d + 1) rc rs 10 [some (.ref r0), some (.int l1), none, some (.int l2), some (.int (v4 - 1))] [] g4 P) : SW sc m_X1_setRank (d + 1) rc rs 0 [some (.ref r0), some (.int l1), some (.int l2), none, none] [] h P := by
  refine sw_iload_n dX1_setRank_0 rfl ?_
  refine sw_istore_n dX1_setRank_1 (by decide) rfl ?_
  show SW sc m_X1_setRank _ _ _ 2 [some (.ref r0), some (.int l1), some (.int l2), some (.int l2), none] [] h P
  refine sw_iload_n dX1_setRank_2 rfl ?_
  refine sw_cS (M := m_X1_setRank) dX1_setRank_3 ls_X1_25 hm4 rfl rfl (Nat.le_of_ble_eq_true rfl) (fun _ _ => rfl) rfl ?_
  show SW sc m_X1_setRank _ _ _ 6 [some (.ref r0), some (.int l1), some (.int l2), some (.int l2), none] [.int v4] g4 P
  refine sw_iconst (v := 1) dX1_setRank_6 (by decide) ?_
  refine sw_isub dX1_setRank_7 ?_
  refine sw_istore dX1_setRank_8 (by decide) rfl ?_
  show SW sc m_X1_setRank _ _ _ 10 [some (.ref r0), some (.int l1), some (.int l2), some (.int l2), some (.int (v4 - 1))] [] g4 P
  exact (sw_fg [false, false, true, false, false] rfl (k))
theorem b_X1_setRank_10 {r0 : Nat} {l1 : Int32} {l3 : Int32} {l4 : Int32} (kt : l4 < 0 → SW sc m_X1_setRank d rc rs 38 [none, none, none, none, none] [] h P) (kf : ¬ (l4 < 0) → SW sc m_X1_setRank d rc rs 15 [some (.ref r0), some (.int l1), none, some (.int l3), some (.int l4)] [] h P) : SW sc m_X1_setRank d rc rs 10 [some (.ref r0), some (.int l1), none, some (.int l3), some (.int l4)] [] h P := by
  refine sw_iload dX1_setRank_10 rfl ?_
  exact sw_if_lt dX1_setRank_12 (by decide) (fun q => (sw_fg [true, true, false, true, true] rfl (kt q))) (fun q => (kf q))
theorem b_X1_setRank_15 {r0 : Nat} {l1 : Int32} {l3 : Int32} {l4 : Int32} (kt : l1 ≤ 0 → SW sc m_X1_setRank d rc rs 38 [none, none, none, none, none] [] h P) (kf : ¬ (l1 ≤ 0) → SW sc m_X1_setRank d rc rs 19 [some (.ref r0), some (.int l1), none, some (.int l3), some (.int l4)] [] h P) : SW sc m_X1_setRank d rc rs 15 [some (.ref r0), some (.int l1), none, some (.int l3), some (.int l4)] [] h P := by
  refine sw_iload_n dX1_setRank_15 rfl ?_
  exact sw_if_le dX1_setRank_16 (by decide) (fun q => (sw_fg [true, true, false, true, true] rfl (kt q))) (fun q => (kf q))
theorem b_X1_setRank_19 {r0 : Nat} {l1 : Int32} {l3 : Int32} {l4 : Int32} {g6 : ab_H} {fs6 : List Value} (hz5 : ¬ l1 = 0) (hr6 : (h)[r0]? = some (1, fs6)) (hm6 : MSE m_X1_setNumber d [.ref r0, .int l4, .int (l3 - l3 / l1 * l1)] h none g6) (hz9 : ¬ l1 = 0) (k : SW sc m_X1_setRank (d + 1) rc rs 10 [some (.ref r0), some (.int l1), none, some (.int (l3 / l1)), some (.int (l4 + (-1)))] [] g6 P) : SW sc m_X1_setRank (d + 1) rc rs 19 [some (.ref r0), some (.int l1), none, some (.int l3), some (.int l4)] [] h P := by
  refine sw_aload_n dX1_setRank_19 rfl ?_
  refine sw_iload dX1_setRank_20 rfl ?_
  refine sw_iload_n dX1_setRank_22 rfl ?_
  refine sw_iload_n dX1_setRank_23 rfl ?_
  refine sw_irem dX1_setRank_24 hz5 ?_
  refine sw_cV (M := m_X1_setRank) dX1_setRank_25 lv_X1_39 hm6 hr6 rfl (by decide) rfl rfl rfl (Nat.le_of_ble_eq_true rfl) (fun _ _ => rfl) rfl ?_
  show SW sc m_X1_setRank _ _ _ 28 [some (.ref r0), some (.int l1), none, some (.int l3), some (.int l4)] [] g6 P
  refine sw_iload_n dX1_setRank_28 rfl ?_
  refine sw_iload_n dX1_setRank_29 rfl ?_
  refine sw_idiv dX1_setRank_30 hz9 ?_
  refine sw_istore_n dX1_setRank_31 (by decide) rfl ?_
  show SW sc m_X1_setRank _ _ _ 32 [some (.ref r0), some (.int l1), none, some (.int (l3 / l1)), some (.int l4)] [] g6 P
  refine sw_iinc (v := l4 + (-1)) dX1_setRank_32 rfl rfl (by decide) rfl ?_
  show SW sc m_X1_setRank _ _ _ 35 [some (.ref r0), some (.int l1), none, some (.int (l3 / l1)), some (.int (l4 + (-1)))] [] g6 P
  exact sw_goto dX1_setRank_35 (by decide) (k)
theorem b_X1_setRank_38  (hP : P (.inl none) h) : SW sc m_X1_setRank d rc rs 38 [none, none, none, none, none] [] h P := by
  exact sw_ret (v := none) dX1_setRank_38 rt_v hP
theorem b_X1_plant_0 {r0 : Nat} {r1 : Nat} {g2 : ab_H} {fs2 : List Value} {v4 : Int32} {g4 : ab_H} {fs4 : List Value} (hr2 : (h)[r1]? = some (3, fs2)) (hm2 : MSE m_X3_dropEdges d [.ref r1] h none g2) (hr4 : (g2)[r1]? = some (3, fs4)) (hm4 : MSE m_X3_all d [.ref r1] g2 (some (.int v4)) g4) (k : SW sc m_X1_plant (d + 1) rc rs 11 [some (.ref r0), some (.ref r1), some (.int v4), some (.int 0), none] [] g4 P) : SW sc m_X1_plant (d + 1) rc rs 0 [some (.ref r0), some (.ref r1), none, none, none] [] h P := by
  refine sw_aload_n dX1_plant_0 rfl ?_
  refine sw_cV (M := m_X1_plant) dX1_plant_1 lv_X1_63 hm2 hr2 rfl (by decide) rfl rfl rfl (Nat.le_of_ble_eq_true rfl) (fun _ _ => rfl) rfl ?_
  show SW sc m_X1_plant _ _ _ 4 [some (.ref r0), some (.ref r1), none, none, none] [] g2 P
  refine sw_aload_n dX1_plant_4 rfl ?_
  refine sw_cV (M := m_X1_plant) dX1_plant_5 lv_X1_15 hm4 hr4 rfl (by decide) rfl rfl rfl (Nat.le_of_ble_eq_true rfl) (fun _ _ => rfl) rfl ?_
  show SW sc m_X1_plant _ _ _ 8 [some (.ref r0), some (.ref r1), none, none, none] [.int v4] g4 P
  refine sw_istore_n dX1_plant_8 (by decide) rfl ?_
  show SW sc m_X1_plant _ _ _ 9 [some (.ref r0), some (.ref r1), some (.int v4), none, none] [] g4 P
  refine sw_iconst (v := 0) dX1_plant_9 (by decide) ?_
  refine sw_istore_n dX1_plant_10 (by decide) rfl ?_
  show SW sc m_X1_plant _ _ _ 11 [some (.ref r0), some (.ref r1), some (.int v4), some (.int 0), none] [] g4 P
  exact (k)
theorem b_X1_plant_11 {r0 : Nat} {r1 : Nat} {l2 : Int32} {l3 : Int32} {fs3 : List Value} {x3 : Int32} {v4 : Int32} {g4 : ab_H} (hc3 : (h)[r1]? = some (3, fs3)) (hv3 : fs3[2]? = some (.int x3)) (hm4 : MSE m_X9_codeLength d [.int x3] h (some (.int v4)) g4) (kt : v4 ≤ l3 → SW sc m_X1_plant (d + 1) rc rs 67 [none, some (.ref r1), some (.int l2), none, none] [] g4 P) (kf : ¬ (v4 ≤ l3) → SW sc m_X1_plant (d + 1) rc rs 22 [some (.ref r0), some (.ref r1), some (.int l2), some (.int l3), none] [] g4 P) : SW sc m_X1_plant (d + 1) rc rs 11 [some (.ref r0), some (.ref r1), some (.int l2), some (.int l3), none] [] h P := by
  refine sw_iload_n dX1_plant_11 rfl ?_
  refine sw_aload_n dX1_plant_12 rfl ?_
  refine sw_getf dX1_plant_13 lf_X1_21 hc3 hv3 ?_
  refine sw_cS (M := m_X1_plant) dX1_plant_16 ls_X1_25 hm4 rfl rfl (Nat.le_of_ble_eq_true rfl) (fun _ _ => rfl) rfl ?_
  show SW sc m_X1_plant _ _ _ 19 [some (.ref r0), some (.ref r1), some (.int l2), some (.int l3), none] [.int v4, .int l3] g4 P
  exact sw_icmp_ge dX1_plant_19 (by decide) (fun q => (sw_fg [true, false, false, true, false] rfl (kt q))) (fun q => (kf q))
theorem b_X1_plant_22 {r0 : Nat} {r1 : Nat} {l2 : Int32} {l3 : Int32} {fs5 : List Value} {x5 : Int32} {v6 : Int32} {g6 : ab_H} {v7 : Int32} {g7 : ab_H} {fs7 : List Value} {v11 : Int32} {g11 : ab_H} {v17 : Int32} {g17 : ab_H} {fs17 : List Value} {g18 : ab_H} {fs18 : List Value} {v21 : Int32} {g21 : ab_H} (hc5 : (h)[r1]? = some (3, fs5)) (hv5 : fs5[2]? = some (.int x5)) (hm6 : MSE m_X9_codeLength d [.int x5] h (some (.int v6)) g6) (hr7 : (g6)[r0]? = some (1, fs7)) (hm7 : MSE m_X1_namedFrom d [.ref r0, .int l3, .int v6] g6 (some (.int v7)) g7) (hm11 : MSE m_X9_lowest d [.int (l2 &&& (v7 ^^^ (-1)))] g7 (some (.int v11)) g11) (hr17 : (g11)[r0]? = some (1, fs17)) (hm17 : MSE m_X1_number d [.ref r0, .int l3] g11 (some (.int v17)) g17) (hr18 : (g17)[r1]? = some (3, fs18)) (hm18 : MSE m_X3_join d [.ref r1, .int v11, .int v17] g17 none g18) (hm21 : MSE m_X9_without d [.int l2, .int v11] g18 (some (.int v21)) g21) (k : SW sc m_X1_plant (d + 1) rc rs 11 [some (.ref r0), some (.ref r1), some (.int v21), some (.int (l3 + 1)), none] [] g21 P) : SW sc m_X1_plant (d + 1) rc rs 22 [some (.ref r0), some (.ref r1), some (.int l2), some (.int l3), none] [] h P := by
  refine sw_iload_n dX1_plant_22 rfl ?_
  refine sw_aload_n dX1_plant_23 rfl ?_
  refine sw_iload_n dX1_plant_24 rfl ?_
  refine sw_aload_n dX1_plant_25 rfl ?_
  refine sw_getf dX1_plant_26 lf_X1_21 hc5 hv5 ?_
  refine sw_cS (M := m_X1_plant) dX1_plant_29 ls_X1_25 hm6 rfl rfl (Nat.le_of_ble_eq_true rfl) (fun _ _ => rfl) rfl ?_
  show SW sc m_X1_plant _ _ _ 32 [some (.ref r0), some (.ref r1), some (.int l2), some (.int l3), none] [.int v6, .int l3, .ref r0, .int l2] g6 P
  refine sw_cV (M := m_X1_plant) dX1_plant_32 lv_X1_66 hm7 hr7 rfl (by decide) rfl rfl rfl (Nat.le_of_ble_eq_true rfl) (fun _ _ => rfl) rfl ?_
  show SW sc m_X1_plant _ _ _ 35 [some (.ref r0), some (.ref r1), some (.int l2), some (.int l3), none] [.int v7, .int l2] g7 P
  refine sw_iconst (v := (-1)) dX1_plant_35 (by decide) ?_
  refine sw_ixor dX1_plant_36 ?_
  refine sw_iand dX1_plant_37 ?_
  refine sw_cS (M := m_X1_plant) dX1_plant_38 ls_X1_36 hm11 rfl rfl (Nat.le_of_ble_eq_true rfl) (fun _ _ => rfl) rfl ?_
  show SW sc m_X1_plant _ _ _ 41 [some (.ref r0), some (.ref r1), some (.int l2), some (.int l3), none] [.int v11] g11 P
  refine sw_istore dX1_plant_41 (by decide) rfl ?_
  show SW sc m_X1_plant _ _ _ 43 [some (.ref r0), some (.ref r1), some (.int l2), some (.int l3), some (.int v11)] [] g11 P
  refine sw_aload_n dX1_plant_43 rfl ?_
  refine sw_iload dX1_plant_44 rfl ?_
  refine sw_aload_n dX1_plant_46 rfl ?_
  refine sw_iload_n dX1_plant_47 rfl ?_
  refine sw_cV (M := m_X1_plant) dX1_plant_48 lv_X1_60 hm17 hr17 rfl (by decide) rfl rfl rfl (Nat.le_of_ble_eq_true rfl) (fun _ _ => rfl) rfl ?_
  show SW sc m_X1_plant _ _ _ 51 [some (.ref r0), some (.ref r1), some (.int l2), some (.int l3), some (.int v11)] [.int v17, .int v11, .ref r1] g17 P
  refine sw_cV (M := m_X1_plant) dX1_plant_51 lv_X1_69 hm18 hr18 rfl (by decide) rfl rfl rfl (Nat.le_of_ble_eq_true rfl) (fun _ _ => rfl) rfl ?_
  show SW sc m_X1_plant _ _ _ 54 [some (.ref r0), some (.ref r1), some (.int l2), some (.int l3), some (.int v11)] [] g18 P
  refine sw_iload_n dX1_plant_54 rfl ?_
  refine sw_iload dX1_plant_55 rfl ?_
  refine sw_cS (M := m_X1_plant) dX1_plant_57 ls_X1_43 hm21 rfl rfl (Nat.le_of_ble_eq_true rfl) (fun _ _ => rfl) rfl ?_
  show SW sc m_X1_plant _ _ _ 60 [some (.ref r0), some (.ref r1), some (.int l2), some (.int l3), some (.int v11)] [.int v21] g21 P
  refine sw_istore_n dX1_plant_60 (by decide) rfl ?_
  show SW sc m_X1_plant _ _ _ 61 [some (.ref r0), some (.ref r1), some (.int v21), some (.int l3), some (.int v11)] [] g21 P
  refine sw_iinc (v := l3 + 1) dX1_plant_61 rfl rfl (by decide) rfl ?_
  show SW sc m_X1_plant _ _ _ 64 [some (.ref r0), some (.ref r1), some (.int v21), some (.int (l3 + 1)), some (.int v11)] [] g21 P
  exact sw_goto dX1_plant_64 (by decide) (sw_fg [false, false, false, false, true] rfl (k))
theorem b_X1_plant_67 {r1 : Nat} {l2 : Int32} {v2 : Int32} {g2 : ab_H} {v8 : Int32} {g8 : ab_H} {v9 : Int32} {g9 : ab_H} {g10 : ab_H} {fs10 : List Value} (hm2 : MSE m_X9_lowest d [.int l2] h (some (.int v2)) g2) (hm8 : MSE m_X9_without d [.int l2, .int v2] g2 (some (.int v8)) g8) (hm9 : MSE m_X9_lowest d [.int v8] g8 (some (.int v9)) g9) (hr10 : (g9)[r1]? = some (3, fs10)) (hm10 : MSE m_X3_join d [.ref r1, .int v2, .int v9] g9 none g10) (hP : P (.inl none) g10) : SW sc m_X1_plant (d + 1) rc rs 67 [none, some (.ref r1), some (.int l2), none, none] [] h P := by
  refine sw_iload_n dX1_plant_67 rfl ?_
  refine sw_cS (M := m_X1_plant) dX1_plant_68 ls_X1_36 hm2 rfl rfl (Nat.le_of_ble_eq_true rfl) (fun _ _ => rfl) rfl ?_
  show SW sc m_X1_plant _ _ _ 71 [none, some (.ref r1), some (.int l2), none, none] [.int v2] g2 P
  refine sw_istore_n dX1_plant_71 (by decide) rfl ?_
  show SW sc m_X1_plant _ _ _ 72 [none, some (.ref r1), some (.int l2), some (.int v2), none] [] g2 P
  refine sw_aload_n dX1_plant_72 rfl ?_
  refine sw_iload_n dX1_plant_73 rfl ?_
  refine sw_iload_n dX1_plant_74 rfl ?_
  refine sw_iload_n dX1_plant_75 rfl ?_
  refine sw_cS (M := m_X1_plant) dX1_plant_76 ls_X1_43 hm8 rfl rfl (Nat.le_of_ble_eq_true rfl) (fun _ _ => rfl) rfl ?_
  show SW sc m_X1_plant _ _ _ 79 [none, some (.ref r1), some (.int l2), some (.int v2), none] [.int v8, .int v2, .ref r1] g8 P
  refine sw_cS (M := m_X1_plant) dX1_plant_79 ls_X1_36 hm9 rfl rfl (Nat.le_of_ble_eq_true rfl) (fun _ _ => rfl) rfl ?_
  show SW sc m_X1_plant _ _ _ 82 [none, some (.ref r1), some (.int l2), some (.int v2), none] [.int v9, .int v2, .ref r1] g9 P
  refine sw_cV (M := m_X1_plant) dX1_plant_82 lv_X1_69 hm10 hr10 rfl (by decide) rfl rfl rfl (Nat.le_of_ble_eq_true rfl) (fun _ _ => rfl) rfl ?_
  show SW sc m_X1_plant _ _ _ 85 [none, some (.ref r1), some (.int l2), some (.int v2), none] [] g10 P
  exact sw_ret (v := none) dX1_plant_85 rt_v hP
theorem b_X1_namedFrom_0 {r0 : Nat} {l1 : Int32} {l2 : Int32} (k : SW sc m_X1_namedFrom d rc rs 5 [some (.ref r0), none, some (.int l2), some (.int 0), some (.int l1)] [] h P) : SW sc m_X1_namedFrom d rc rs 0 [some (.ref r0), some (.int l1), some (.int l2), none, none] [] h P := by
  refine sw_iconst (v := 0) dX1_namedFrom_0 (by decide) ?_
  refine sw_istore_n dX1_namedFrom_1 (by decide) rfl ?_
  show SW sc m_X1_namedFrom _ _ _ 2 [some (.ref r0), some (.int l1), some (.int l2), some (.int 0), none] [] h P
  refine sw_iload_n dX1_namedFrom_2 rfl ?_
  refine sw_istore dX1_namedFrom_3 (by decide) rfl ?_
  show SW sc m_X1_namedFrom _ _ _ 5 [some (.ref r0), some (.int l1), some (.int l2), some (.int 0), some (.int l1)] [] h P
  exact (sw_fg [false, true, false, false, false] rfl (k))
theorem b_X1_namedFrom_5 {r0 : Nat} {l2 : Int32} {l3 : Int32} {l4 : Int32} (kt : l2 ≤ l4 → SW sc m_X1_namedFrom d rc rs 28 [none, none, none, some (.int l3), none] [] h P) (kf : ¬ (l2 ≤ l4) → SW sc m_X1_namedFrom d rc rs 11 [some (.ref r0), none, some (.int l2), some (.int l3), some (.int l4)] [] h P) : SW sc m_X1_namedFrom d rc rs 5 [some (.ref r0), none, some (.int l2), some (.int l3), some (.int l4)] [] h P := by
  refine sw_iload dX1_namedFrom_5 rfl ?_
  refine sw_iload_n dX1_namedFrom_7 rfl ?_
  exact sw_icmp_ge dX1_namedFrom_8 (by decide) (fun q => (sw_fg [true, false, true, false, true] rfl (kt q))) (fun q => (kf q))
theorem b_X1_namedFrom_11 {r0 : Nat} {l2 : Int32} {l3 : Int32} {l4 : Int32} {v5 : Int32} {g5 : ab_H} {fs5 : List Value} (hr5 : (h)[r0]? = some (1, fs5)) (hm5 : MSE m_X1_number d [.ref r0, .int l4] h (some (.int v5)) g5) (k : SW sc m_X1_namedFrom (d + 1) rc rs 5 [some (.ref r0), none, some (.int l2), some (.int (l3 ||| (1 <<< (v5 &&& 31)))), some (.int (l4 + 1))] [] g5 P) : SW sc m_X1_namedFrom (d + 1) rc rs 11 [some (.ref r0), none, some (.int l2), some (.int l3), some (.int l4)] [] h P := by
  refine sw_iload_n dX1_namedFrom_11 rfl ?_
  refine sw_iconst (v := 1) dX1_namedFrom_12 (by decide) ?_
  refine sw_aload_n dX1_namedFrom_13 rfl ?_
  refine sw_iload dX1_namedFrom_14 rfl ?_
  refine sw_cV (M := m_X1_namedFrom) dX1_namedFrom_16 lv_X1_60 hm5 hr5 rfl (by decide) rfl rfl rfl (Nat.le_of_ble_eq_true rfl) (fun _ _ => rfl) rfl ?_
  show SW sc m_X1_namedFrom _ _ _ 19 [some (.ref r0), none, some (.int l2), some (.int l3), some (.int l4)] [.int v5, .int 1, .int l3] g5 P
  refine sw_ishl dX1_namedFrom_19 ?_
  refine sw_ior dX1_namedFrom_20 ?_
  refine sw_istore_n dX1_namedFrom_21 (by decide) rfl ?_
  show SW sc m_X1_namedFrom _ _ _ 22 [some (.ref r0), none, some (.int l2), some (.int (l3 ||| (1 <<< (v5 &&& 31)))), some (.int l4)] [] g5 P
  refine sw_iinc (v := l4 + 1) dX1_namedFrom_22 rfl rfl (by decide) rfl ?_
  show SW sc m_X1_namedFrom _ _ _ 25 [some (.ref r0), none, some (.int l2), some (.int (l3 ||| (1 <<< (v5 &&& 31)))), some (.int (l4 + 1))] [] g5 P
  exact sw_goto dX1_namedFrom_25 (by decide) (k)
theorem b_X1_namedFrom_28 {l3 : Int32} (hP : P (.inl (some (.int l3))) h) : SW sc m_X1_namedFrom d rc rs 28 [none, none, none, some (.int l3), none] [] h P := by
  refine sw_iload_n dX1_namedFrom_28 rfl ?_
  exact sw_ret (v := (some (.int l3))) dX1_namedFrom_29 rt_i hP
theorem b_X2_treesWithLeaves_0 {r0 : Nat} {l1 : Int32} {l2 : Int32} (kt : ¬ l1 = 1 → SW sc m_X2_treesWithLeaves d rc rs 15 [some (.ref r0), some (.int l1), some (.int l2), none, none] [] h P) (kf : l1 = 1 → SW sc m_X2_treesWithLeaves d rc rs 5 [none, none, some (.int l2), none, none] [] h P) : SW sc m_X2_treesWithLeaves d rc rs 0 [some (.ref r0), some (.int l1), some (.int l2), none, none] [] h P := by
  refine sw_iload_n dX2_treesWithLeaves_0 rfl ?_
  refine sw_iconst (v := 1) dX2_treesWithLeaves_1 (by decide) ?_
  exact sw_icmp_ne dX2_treesWithLeaves_2 (by decide) (fun q => (kt q)) (fun q => (sw_fg [true, true, false, false, false] rfl (kf q)))
theorem b_X2_treesWithLeaves_5 {l2 : Int32} (kt : ¬ l2 = 0 → SW sc m_X2_treesWithLeaves d rc rs 13 [none, none, none, none, none] [] h P) (kf : l2 = 0 → SW sc m_X2_treesWithLeaves d rc rs 9 [none, none, none, none, none] [] h P) : SW sc m_X2_treesWithLeaves d rc rs 5 [none, none, some (.int l2), none, none] [] h P := by
  refine sw_iload_n dX2_treesWithLeaves_5 rfl ?_
  exact sw_if_ne dX2_treesWithLeaves_6 (by decide) (fun q => (sw_fg [false, false, true, false, false] rfl (kt q))) (fun q => (sw_fg [false, false, true, false, false] rfl (kf q)))
theorem b_X2_treesWithLeaves_9  (k : SW sc m_X2_treesWithLeaves d rc rs 14 [none, none, none, none, none] [.int 1] h P) : SW sc m_X2_treesWithLeaves d rc rs 9 [none, none, none, none, none] [] h P := by
  refine sw_iconst (v := 1) dX2_treesWithLeaves_9 (by decide) ?_
  exact sw_goto dX2_treesWithLeaves_10 (by decide) (k)
theorem b_X2_treesWithLeaves_13  (k : SW sc m_X2_treesWithLeaves d rc rs 14 [none, none, none, none, none] [.int 0] h P) : SW sc m_X2_treesWithLeaves d rc rs 13 [none, none, none, none, none] [] h P := by
  refine sw_iconst (v := 0) dX2_treesWithLeaves_13 (by decide) ?_
  exact (k)
theorem b_X2_treesWithLeaves_14 {s0 : Int32} (hP : P (.inl (some (.int s0))) h) : SW sc m_X2_treesWithLeaves d rc rs 14 [none, none, none, none, none] [.int s0] h P := by
  exact sw_ret (v := (some (.int s0))) dX2_treesWithLeaves_14 rt_i hP
end
