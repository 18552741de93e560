section
variable {sc : Option (List Int32)} {d rc rs : Nat} {h : ab_H} {P : ab_O → ab_H → Prop}
theorem b_X0_at_0 {r0 : Nat} {l1 : Int32} (kt : l1 < 0 → SW sc m_X0_at d rc rs 21 [none, none] [] h P) (kf : ¬ (l1 < 0) → SW sc m_X0_at d rc rs 4 [some (.ref r0), some (.int l1)] [] h P) : SW sc m_X0_at d rc rs 0 [some (.ref r0), some (.int l1)] [] h P := by
  refine sw_iload_n dX0_at_0 rfl ?_
  exact sw_if_lt dX0_at_1 (by decide) (fun q => (sw_fg [true, true] rfl (kt q))) (fun q => (kf q))
theorem b_X0_at_4 {r0 : Nat} {l1 : Int32} {fs3 : List Value} {x3 : Int32} (hc3 : (h)[r0]? = some (0, fs3)) (hv3 : fs3[1]? = some (.int x3)) (kt : x3 ≤ l1 → SW sc m_X0_at d rc rs 21 [none, none] [] h P) (kf : ¬ (x3 ≤ l1) → SW sc m_X0_at d rc rs 12 [some (.ref r0), some (.int l1)] [] h P) : SW sc m_X0_at d rc rs 4 [some (.ref r0), some (.int l1)] [] h P := by
  refine sw_iload_n dX0_at_4 rfl ?_
  refine sw_aload_n dX0_at_5 rfl ?_
  refine sw_getf dX0_at_6 lf_X0_15 hc3 hv3 ?_
  exact sw_icmp_ge dX0_at_9 (by decide) (fun q => (sw_fg [true, true] rfl (kt q))) (fun q => (kf q))
theorem b_X0_at_12 {r0 : Nat} {l1 : Int32} {fs2 : List Value} {a2 : Nat} {vs4 : List Value} {x4 : Int32} (hc2 : (h)[r0]? = some (0, fs2)) (hv2 : fs2[0]? = some (.ref a2)) (hc4 : (h)[a2]? = some (101, vs4)) (ho4 : ¬ l1 < 0) (hi4 : vs4[l1.toNatClampNeg]? = some (.int x4)) (k : SW sc m_X0_at d rc rs 22 [none, none] [.int x4] h P) : SW sc m_X0_at d rc rs 12 [some (.ref r0), some (.int l1)] [] h P := by
  refine sw_aload_n dX0_at_12 rfl ?_
  refine sw_getf dX0_at_13 lf_X0_9 hc2 hv2 ?_
  refine sw_iload_n dX0_at_16 rfl ?_
  refine sw_bald dX0_at_17 hc4 ho4 hi4 ?_
  exact sw_goto dX0_at_18 (by decide) (sw_fg [true, true] rfl (k))
theorem b_X0_at_21  (k : SW sc m_X0_at d rc rs 22 [none, none] [.int (-1)] h P) : SW sc m_X0_at d rc rs 21 [none, none] [] h P := by
  refine sw_iconst (v := (-1)) dX0_at_21 (by decide) ?_
  exact (k)
theorem b_X0_at_22 {s0 : Int32} (hP : P (.inl (some (.int s0))) h) : SW sc m_X0_at d rc rs 22 [none, none] [.int s0] h P := by
  exact sw_ret (v := (some (.int s0))) dX0_at_22 rt_i hP
theorem b_X0_shorten_0 {r0 : Nat} {l1 : Int32} (kt : l1 < 0 → SW sc m_X0_shorten d rc rs 12 [none, none] [] h P) (kf : ¬ (l1 < 0) → SW sc m_X0_shorten d rc rs 4 [some (.ref r0), some (.int l1)] [] h P) : SW sc m_X0_shorten d rc rs 0 [some (.ref r0), some (.int l1)] [] h P := by
  refine sw_iload_n dX0_shorten_0 rfl ?_
  exact sw_if_lt dX0_shorten_1 (by decide) (fun q => (sw_fg [true, true] rfl (kt q))) (fun q => (kf q))
theorem b_X0_shorten_4 {r0 : Nat} {l1 : Int32} {fs3 : List Value} {x3 : Int32} (hc3 : (h)[r0]? = some (0, fs3)) (hv3 : fs3[1]? = some (.int x3)) (kt : l1 ≤ x3 → SW sc m_X0_shorten d rc rs 14 [some (.ref r0), some (.int l1)] [] h P) (kf : ¬ (l1 ≤ x3) → SW sc m_X0_shorten d rc rs 12 [none, none] [] h P) : SW sc m_X0_shorten d rc rs 4 [some (.ref r0), some (.int l1)] [] h P := by
  refine sw_iload_n dX0_shorten_4 rfl ?_
  refine sw_aload_n dX0_shorten_5 rfl ?_
  refine sw_getf dX0_shorten_6 lf_X0_15 hc3 hv3 ?_
  exact sw_icmp_le dX0_shorten_9 (by decide) (fun q => (kt q)) (fun q => (sw_fg [true, true] rfl (kf q)))
theorem b_X0_shorten_12  (hP : P (.inl (some (.int 0))) h) : SW sc m_X0_shorten d rc rs 12 [none, none] [] h P := by
  refine sw_iconst (v := 0) dX0_shorten_12 (by decide) ?_
  exact sw_ret (v := (some (.int 0))) dX0_shorten_13 (rt_n (by decide)) hP
theorem b_X0_shorten_14 {r0 : Nat} {l1 : Int32} {fs3 : List Value} (hc3 : (h)[r0]? = some (0, fs3)) (hk3 : 1 < fs3.length) (hP : P (.inl (some (.int 1))) ((h).set r0 (0, fs3.set 1 (.int l1)))) : SW sc m_X0_shorten d rc rs 14 [some (.ref r0), some (.int l1)] [] h P := by
  refine sw_aload_n dX0_shorten_14 rfl ?_
  refine sw_iload_n dX0_shorten_15 rfl ?_
  refine sw_putf dX0_shorten_16 lp_X0_15 hc3 hk3 (fun _ _ => ⟨rfl, rfl⟩) ?_
  refine sw_iconst (v := 1) dX0_shorten_19 (by decide) ?_
  exact sw_ret (v := (some (.int 1))) dX0_shorten_20 (rt_n (by decide)) hP
theorem b_X0_put_0 {r0 : Nat} {l1 : Int32} {fs2 : List Value} {x2 : Int32} (hc2 : (h)[r0]? = some (0, fs2)) (hv2 : fs2[1]? = some (.int x2)) (kt : 400 ≤ x2 → SW sc m_X0_put d rc rs 31 [none, none] [] h P) (kf : ¬ (400 ≤ x2) → SW sc m_X0_put d rc rs 10 [some (.ref r0), some (.int l1)] [] h P) : SW sc m_X0_put d rc rs 0 [some (.ref r0), some (.int l1)] [] h P := by
  refine sw_aload_n dX0_put_0 rfl ?_
  refine sw_getf dX0_put_1 lf_X0_15 hc2 hv2 ?_
  refine sw_sipush (v := 400) dX0_put_4 (by decide) ?_
  exact sw_icmp_ge dX0_put_7 (by decide) (fun q => (sw_fg [true, true] rfl (kt q))) (fun q => (kf q))
theorem b_X0_put_10 {r0 : Nat} {l1 : Int32} {fs2 : List Value} {a2 : Nat} {fs4 : List Value} {x4 : Int32} {vs7 : List Value} {fs10 : List Value} {x10 : Int32} {fs13 : List Value} (hc2 : (h)[r0]? = some (0, fs2)) (hv2 : fs2[0]? = some (.ref a2)) (hc4 : (h)[r0]? = some (0, fs4)) (hv4 : fs4[1]? = some (.int x4)) (hc7 : (h)[a2]? = some (101, vs7)) (ho7 : ¬ x4 < 0) (hl7 : x4.toNatClampNeg < vs7.length) (hc10 : ((h).set a2 (101, vs7.set x4.toNatClampNeg (.int l1.toInt8.toInt32.toInt8.toInt32)))[r0]? = some (0, fs10)) (hv10 : fs10[1]? = some (.int x10)) (hc13 : ((h).set a2 (101, vs7.set x4.toNatClampNeg (.int l1.toInt8.toInt32.toInt8.toInt32)))[r0]? = some (0, fs13)) (hk13 : 1 < fs13.length) (k : SW sc m_X0_put d rc rs 31 [none, none] [] (((h).set a2 (101, vs7.set x4.toNatClampNeg (.int l1.toInt8.toInt32.toInt8.toInt32))).set r0 (0, fs13.set 1 (.int (x10 + 1)))) P) : SW sc m_X0_put d rc rs 10 [some (.ref r0), some (.int l1)] [] h P := by
  refine sw_aload_n dX0_put_10 rfl ?_
  refine sw_getf dX0_put_11 lf_X0_9 hc2 hv2 ?_
  refine sw_aload_n dX0_put_14 rfl ?_
  refine sw_getf dX0_put_15 lf_X0_15 hc4 hv4 ?_
  refine sw_iload_n dX0_put_18 rfl ?_
  refine sw_i2b dX0_put_19 ?_
  refine sw_bast dX0_put_20 hc7 ho7 hl7 ?_
  refine sw_aload_n dX0_put_21 rfl ?_
  refine sw_dup dX0_put_22 (fun _ _ => rfl) ?_
  refine sw_getf dX0_put_23 lf_X0_15 hc10 hv10 ?_
  refine sw_iconst (v := 1) dX0_put_26 (by decide) ?_
  refine sw_iadd dX0_put_27 ?_
  refine sw_putf dX0_put_28 lp_X0_15 hc13 hk13 (fun _ _ => ⟨rfl, rfl⟩) ?_
  exact (sw_fg [true, true] rfl (k))
theorem b_X0_put_31  (hP : P (.inl none) h) : SW sc m_X0_put d rc rs 31 [none, none] [] h P := by
  exact sw_ret (v := none) dX0_put_31 rt_v hP
theorem b_X0_putFour_0 {r0 : Nat} {l1 : Int32} {g5 : ab_H} {fs5 : List Value} {g10 : ab_H} {fs10 : List Value} {g15 : ab_H} {fs15 : List Value} {g18 : ab_H} {fs18 : List Value} (hr5 : (h)[r0]? = some (0, fs5)) (hm5 : MSE m_X0_put d [.ref r0, .int (l1 >>> (24 &&& 31))] h none g5) (hr10 : (g5)[r0]? = some (0, fs10)) (hm10 : MSE m_X0_put d [.ref r0, .int (l1 >>> (16 &&& 31))] g5 none g10) (hr15 : (g10)[r0]? = some (0, fs15)) (hm15 : MSE m_X0_put d [.ref r0, .int (l1 >>> (8 &&& 31))] g10 none g15) (hr18 : (g15)[r0]? = some (0, fs18)) (hm18 : MSE m_X0_put d [.ref r0, .int l1] g15 none g18) (hP : P (.inl none) g18) : SW sc m_X0_putFour (d + 1) rc rs 0 [some (.ref r0), some (.int l1)] [] h P := by
  refine sw_aload_n dX0_putFour_0 rfl ?_
  refine sw_iload_n dX0_putFour_1 rfl ?_
  refine sw_bipush (v := 24) dX0_putFour_2 (by decide) ?_
  refine sw_ishr dX0_putFour_4 ?_
  refine sw_cV dX0_putFour_5 lv_X0_19 hm5 hr5 rfl (by decide) rfl rfl rfl (Nat.le_of_ble_eq_true rfl) (fun _ _ => rfl) rfl ?_
  show SW sc m_X0_putFour _ _ _ 8 [some (.ref r0), some (.int l1)] [] g5 P
  refine sw_aload_n dX0_putFour_8 rfl ?_
  refine sw_iload_n dX0_putFour_9 rfl ?_
  refine sw_bipush (v := 16) dX0_putFour_10 (by decide) ?_
  refine sw_ishr dX0_putFour_12 ?_
  refine sw_cV dX0_putFour_13 lv_X0_19 hm10 hr10 rfl (by decide) rfl rfl rfl (Nat.le_of_ble_eq_true rfl) (fun _ _ => rfl) rfl ?_
  show SW sc m_X0_putFour _ _ _ 16 [some (.ref r0), some (.int l1)] [] g10 P
  refine sw_aload_n dX0_putFour_16 rfl ?_
  refine sw_iload_n dX0_putFour_17 rfl ?_
  refine sw_bipush (v := 8) dX0_putFour_18 (by decide) ?_
  refine sw_ishr dX0_putFour_20 ?_
  refine sw_cV dX0_putFour_21 lv_X0_19 hm15 hr15 rfl (by decide) rfl rfl rfl (Nat.le_of_ble_eq_true rfl) (fun _ _ => rfl) rfl ?_
  show SW sc m_X0_putFour _ _ _ 24 [some (.ref r0), some (.int l1)] [] g15 P
  refine sw_aload_n dX0_putFour_24 rfl ?_
  refine sw_iload_n dX0_putFour_25 rfl ?_
  refine sw_cV dX0_putFour_26 lv_X0_19 hm18 hr18 rfl (by decide) rfl rfl rfl (Nat.le_of_ble_eq_true rfl) (fun _ _ => rfl) rfl ?_
  show SW sc m_X0_putFour _ _ _ 29 [some (.ref r0), some (.int l1)] [] g18 P
  exact sw_ret (v := none) dX0_putFour_29 rt_v hP
theorem b_X0_putStatement_0 {r0 : Nat} {t1 : Nat} {l2 : Int32} {l3 : Int32} (k : SW sc m_X0_putStatement d rc rs 3 [some (.ref r0), some (.retAddr t1), some (.int l2), some (.int l3), some (.int 0)] [] h P) : SW sc m_X0_putStatement d rc rs 0 [some (.ref r0), some (.retAddr t1), some (.int l2), some (.int l3), none] [] h P := by
  refine sw_iconst (v := 0) dX0_putStatement_0 (by decide) ?_
  refine sw_istore dX0_putStatement_1 (by decide) rfl ?_
  show SW sc m_X0_putStatement _ _ _ 3 [some (.ref r0), some (.retAddr t1), some (.int l2), some (.int l3), some (.int 0)] [] h P
  exact (k)
theorem b_X0_putStatement_3 {r0 : Nat} {t1 : Nat} {l2 : Int32} {l3 : Int32} {l4 : Int32} {v3 : Int32} {g3 : ab_H} (ht2 : t1 < 6) (ht3 : t1 < 6) (hm3 : MSE m_J0_length_8abf5 d [.retAddr t1] h (some (.int v3)) g3) (kt : v3 ≤ l4 → SW sc m_X0_putStatement (d + 1) rc rs 28 [some (.ref r0), none, some (.int l2), some (.int l3), none] [] g3 P) (kf : ¬ (v3 ≤ l4) → SW sc m_X0_putStatement (d + 1) rc rs 12 [some (.ref r0), some (.retAddr t1), some (.int l2), some (.int l3), some (.int l4)] [] g3 P) : SW sc m_X0_putStatement (d + 1) rc rs 3 [some (.ref r0), some (.retAddr t1), some (.int l2), some (.int l3), some (.int l4)] [] h P := by
  refine sw_iload dX0_putStatement_3 rfl ?_
  refine sw_aload_nt dX0_putStatement_5 rfl (Or.inl ht2) ?_
  refine sw_cT dX0_putStatement_6 lv_X0_23 rfl ht3 hm3 rfl rfl (Nat.le_of_ble_eq_true rfl) (fun _ _ => rfl) (fun σ τ v hv => by simp at hv) ?_
  show SW sc m_X0_putStatement _ _ _ 9 [some (.ref r0), some (.retAddr t1), some (.int l2), some (.int l3), some (.int l4)] [.int v3, .int l4] g3 P
  exact sw_icmp_ge dX0_putStatement_9 (by decide) (fun q => (sw_fg [false, true, false, false, true] rfl (kt q))) (fun q => (kf q))
theorem b_X0_putStatement_12 {r0 : Nat} {t1 : Nat} {l2 : Int32} {l3 : Int32} {l4 : Int32} {v4 : Int32} {g4 : ab_H} {g5 : ab_H} {fs5 : List Value} (ht2 : t1 < 6) (ht4 : t1 < 6) (hm4 : MSE m_J0_charAt_5068e d [.retAddr t1, .int l4] h (some (.int v4)) g4) (hr5 : (g4)[r0]? = some (0, fs5)) (hm5 : MSE m_X0_put d [.ref r0, .int v4] g4 none g5) (k : SW sc m_X0_putStatement (d + 1) rc rs 3 [some (.ref r0), some (.retAddr t1), some (.int l2), some (.int l3), some (.int (l4 + 1))] [] g5 P) : SW sc m_X0_putStatement (d + 1) rc rs 12 [some (.ref r0), some (.retAddr t1), some (.int l2), some (.int l3), some (.int l4)] [] h P := by
  refine sw_aload_n dX0_putStatement_12 rfl ?_
  refine sw_aload_nt dX0_putStatement_13 rfl (Or.inl ht2) ?_
  refine sw_iload dX0_putStatement_14 rfl ?_
  refine sw_cT dX0_putStatement_16 lv_X0_28 rfl ht4 hm4 rfl rfl (Nat.le_of_ble_eq_true rfl) (fun _ _ => rfl) (fun σ τ v hv => by rw [List.mem_singleton.mp hv]; rfl) ?_
  show SW sc m_X0_putStatement _ _ _ 19 [some (.ref r0), some (.retAddr t1), some (.int l2), some (.int l3), some (.int l4)] [.int v4, .ref r0] g4 P
  refine sw_cV dX0_putStatement_19 lv_X0_19 hm5 hr5 rfl (by decide) rfl rfl rfl (Nat.le_of_ble_eq_true rfl) (fun _ _ => rfl) rfl ?_
  show SW sc m_X0_putStatement _ _ _ 22 [some (.ref r0), some (.retAddr t1), some (.int l2), some (.int l3), some (.int l4)] [] g5 P
  refine sw_iinc (v := l4 + 1) dX0_putStatement_22 rfl rfl (by decide) rfl ?_
  show SW sc m_X0_putStatement _ _ _ 25 [some (.ref r0), some (.retAddr t1), some (.int l2), some (.int l3), some (.int (l4 + 1))] [] g5 P
  exact sw_goto dX0_putStatement_25 (by decide) (k)
theorem b_X0_putStatement_28 {r0 : Nat} {l2 : Int32} {l3 : Int32} {g3 : ab_H} {fs3 : List Value} (hr3 : (h)[r0]? = some (0, fs3)) (hm3 : MSE m_X0_putNumber d [.ref r0, .int l2] h none g3) (kt : l3 = (-1) → SW sc m_X0_putStatement (d + 1) rc rs 43 [some (.ref r0), none, none, none, none] [] g3 P) (kf : ¬ (l3 = (-1)) → SW sc m_X0_putStatement (d + 1) rc rs 38 [some (.ref r0), none, none, some (.int l3), none] [] g3 P) : SW sc m_X0_putStatement (d + 1) rc rs 28 [some (.ref r0), none, some (.int l2), some (.int l3), none] [] h P := by
  refine sw_aload_n dX0_putStatement_28 rfl ?_
  refine sw_iload_n dX0_putStatement_29 rfl ?_
  refine sw_cV dX0_putStatement_30 lv_X0_32 hm3 hr3 rfl (by decide) rfl rfl rfl (Nat.le_of_ble_eq_true rfl) (fun _ _ => rfl) rfl ?_
  show SW sc m_X0_putStatement _ _ _ 33 [some (.ref r0), none, some (.int l2), some (.int l3), none] [] g3 P
  refine sw_iload_n dX0_putStatement_33 rfl ?_
  refine sw_iconst (v := (-1)) dX0_putStatement_34 (by decide) ?_
  exact sw_icmp_eq dX0_putStatement_35 (by decide) (fun q => (sw_fg [false, false, true, true, false] rfl (kt q))) (fun q => (sw_fg [false, false, true, false, false] rfl (kf q)))
theorem b_X0_putStatement_38 {r0 : Nat} {l3 : Int32} {g3 : ab_H} {fs3 : List Value} (hr3 : (h)[r0]? = some (0, fs3)) (hm3 : MSE m_X0_putNumber d [.ref r0, .int l3] h none g3) (k : SW sc m_X0_putStatement (d + 1) rc rs 43 [some (.ref r0), none, none, none, none] [] g3 P) : SW sc m_X0_putStatement (d + 1) rc rs 38 [some (.ref r0), none, none, some (.int l3), none] [] h P := by
  refine sw_aload_n dX0_putStatement_38 rfl ?_
  refine sw_iload_n dX0_putStatement_39 rfl ?_
  refine sw_cV dX0_putStatement_40 lv_X0_32 hm3 hr3 rfl (by decide) rfl rfl rfl (Nat.le_of_ble_eq_true rfl) (fun _ _ => rfl) rfl ?_
  show SW sc m_X0_putStatement _ _ _ 43 [some (.ref r0), none, none, some (.int l3), none] [] g3 P
  exact (sw_fg [false, false, false, true, false] rfl (k))
theorem b_X0_putStatement_43 {r0 : Nat} {g3 : ab_H} {fs3 : List Value} (hr3 : (h)[r0]? = some (0, fs3)) (hm3 : MSE m_X0_put d [.ref r0, .int 59] h none g3) (hP : P (.inl none) g3) : SW sc m_X0_putStatement (d + 1) rc rs 43 [some (.ref r0), none, none, none, none] [] h P := by
  refine sw_aload_n dX0_putStatement_43 rfl ?_
  refine sw_bipush (v := 59) dX0_putStatement_44 (by decide) ?_
  refine sw_cV dX0_putStatement_46 lv_X0_19 hm3 hr3 rfl (by decide) rfl rfl rfl (Nat.le_of_ble_eq_true rfl) (fun _ _ => rfl) rfl ?_
  show SW sc m_X0_putStatement _ _ _ 49 [some (.ref r0), none, none, none, none] [] g3 P
  exact sw_ret (v := none) dX0_putStatement_49 rt_v hP
theorem b_X0_putNumber_0 {r0 : Nat} {l1 : Int32} {g3 : ab_H} {fs3 : List Value} (hr3 : (h)[r0]? = some (0, fs3)) (hm3 : MSE m_X0_put d [.ref r0, .int 32] h none g3) (kt : l1 ≤ 9 → SW sc m_X0_putNumber (d + 1) rc rs 23 [some (.ref r0), some (.int l1)] [] g3 P) (kf : ¬ (l1 ≤ 9) → SW sc m_X0_putNumber (d + 1) rc rs 12 [some (.ref r0), some (.int l1)] [] g3 P) : SW sc m_X0_putNumber (d + 1) rc rs 0 [some (.ref r0), some (.int l1)] [] h P := by
  refine sw_aload_n dX0_putNumber_0 rfl ?_
  refine sw_bipush (v := 32) dX0_putNumber_1 (by decide) ?_
  refine sw_cV dX0_putNumber_3 lv_X0_19 hm3 hr3 rfl (by decide) rfl rfl rfl (Nat.le_of_ble_eq_true rfl) (fun _ _ => rfl) rfl ?_
  show SW sc m_X0_putNumber _ _ _ 6 [some (.ref r0), some (.int l1)] [] g3 P
  refine sw_iload_n dX0_putNumber_6 rfl ?_
  refine sw_bipush (v := 9) dX0_putNumber_7 (by decide) ?_
  exact sw_icmp_le dX0_putNumber_9 (by decide) (fun q => (kt q)) (fun q => (kf q))
theorem b_X0_putNumber_12 {r0 : Nat} {l1 : Int32} {g7 : ab_H} {fs7 : List Value} (hz5 : ¬ (10 : Int32) = 0) (hr7 : (h)[r0]? = some (0, fs7)) (hm7 : MSE m_X0_put d [.ref r0, .int (48 + (l1 / 10))] h none g7) (k : SW sc m_X0_putNumber (d + 1) rc rs 23 [some (.ref r0), some (.int l1)] [] g7 P) : SW sc m_X0_putNumber (d + 1) rc rs 12 [some (.ref r0), some (.int l1)] [] h P := by
  refine sw_aload_n dX0_putNumber_12 rfl ?_
  refine sw_bipush (v := 48) dX0_putNumber_13 (by decide) ?_
  refine sw_iload_n dX0_putNumber_15 rfl ?_
  refine sw_bipush (v := 10) dX0_putNumber_16 (by decide) ?_
  refine sw_idiv dX0_putNumber_18 hz5 ?_
  refine sw_iadd dX0_putNumber_19 ?_
  refine sw_cV dX0_putNumber_20 lv_X0_19 hm7 hr7 rfl (by decide) rfl rfl rfl (Nat.le_of_ble_eq_true rfl) (fun _ _ => rfl) rfl ?_
  show SW sc m_X0_putNumber _ _ _ 23 [some (.ref r0), some (.int l1)] [] g7 P
  exact (k)
theorem b_X0_putNumber_23 {r0 : Nat} {l1 : Int32} {g7 : ab_H} {fs7 : List Value} (hz5 : ¬ (10 : Int32) = 0) (hr7 : (h)[r0]? = some (0, fs7)) (hm7 : MSE m_X0_put d [.ref r0, .int (48 + (l1 - l1 / 10 * 10))] h none g7) (hP : P (.inl none) g7) : SW sc m_X0_putNumber (d + 1) rc rs 23 [some (.ref r0), some (.int l1)] [] h P := by
  refine sw_aload_n dX0_putNumber_23 rfl ?_
  refine sw_bipush (v := 48) dX0_putNumber_24 (by decide) ?_
  refine sw_iload_n dX0_putNumber_26 rfl ?_
  refine sw_bipush (v := 10) dX0_putNumber_27 (by decide) ?_
  refine sw_irem dX0_putNumber_29 hz5 ?_
  refine sw_iadd dX0_putNumber_30 ?_
  refine sw_cV dX0_putNumber_31 lv_X0_19 hm7 hr7 rfl (by decide) rfl rfl rfl (Nat.le_of_ble_eq_true rfl) (fun _ _ => rfl) rfl ?_
  show SW sc m_X0_putNumber _ _ _ 34 [some (.ref r0), some (.int l1)] [] g7 P
  exact sw_ret (v := none) dX0_putNumber_34 rt_v hP
theorem b_X1_number_0 {r0 : Nat} {l1 : Int32} (kt : l1 < 0 → SW sc m_X1_number d rc rs 19 [none, none] [] h P) (kf : ¬ (l1 < 0) → SW sc m_X1_number d rc rs 4 [some (.ref r0), some (.int l1)] [] h P) : SW sc m_X1_number d rc rs 0 [some (.ref r0), some (.int l1)] [] h P := by
  refine sw_iload_n dX1_number_0 rfl ?_
  exact sw_if_lt dX1_number_1 (by decide) (fun q => (sw_fg [true, true] rfl (kt q))) (fun q => (kf q))
theorem b_X1_number_4 {r0 : Nat} {l1 : Int32} (kt : 10 ≤ l1 → SW sc m_X1_number d rc rs 19 [none, none] [] h P) (kf : ¬ (10 ≤ l1) → SW sc m_X1_number d rc rs 10 [some (.ref r0), some (.int l1)] [] h P) : SW sc m_X1_number d rc rs 4 [some (.ref r0), some (.int l1)] [] h P := by
  refine sw_iload_n dX1_number_4 rfl ?_
  refine sw_bipush (v := 10) dX1_number_5 (by decide) ?_
  exact sw_icmp_ge dX1_number_7 (by decide) (fun q => (sw_fg [true, true] rfl (kt q))) (fun q => (kf q))
theorem b_X1_number_10 {r0 : Nat} {l1 : Int32} {fs2 : List Value} {a2 : Nat} {vs4 : List Value} {x4 : Int32} (hc2 : (h)[r0]? = some (1, fs2)) (hv2 : fs2[0]? = some (.ref a2)) (hc4 : (h)[a2]? = some (100, vs4)) (ho4 : ¬ l1 < 0) (hi4 : vs4[l1.toNatClampNeg]? = some (.int x4)) (k : SW sc m_X1_number d rc rs 20 [none, none] [.int x4] h P) : SW sc m_X1_number d rc rs 10 [some (.ref r0), some (.int l1)] [] h P := by
  refine sw_aload_n dX1_number_10 rfl ?_
  refine sw_getf dX1_number_11 lf_X1_9 hc2 hv2 ?_
  refine sw_iload_n dX1_number_14 rfl ?_
  refine sw_iald dX1_number_15 hc4 ho4 hi4 ?_
  exact sw_goto dX1_number_16 (by decide) (sw_fg [true, true] rfl (k))
theorem b_X1_number_19  (k : SW sc m_X1_number d rc rs 20 [none, none] [.int (-1)] h P) : SW sc m_X1_number d rc rs 19 [none, none] [] h P := by
  refine sw_iconst (v := (-1)) dX1_number_19 (by decide) ?_
  exact (k)
theorem b_X1_number_20 {s0 : Int32} (hP : P (.inl (some (.int s0))) h) : SW sc m_X1_number d rc rs 20 [none, none] [.int s0] h P := by
  exact sw_ret (v := (some (.int s0))) dX1_number_20 rt_i hP
theorem b_X1_setNumber_0 {r0 : Nat} {l1 : Int32} {l2 : Int32} (kt : l1 < 0 → SW sc m_X1_setNumber d rc rs 17 [none, none, none] [] h P) (kf : ¬ (l1 < 0) → SW sc m_X1_setNumber d rc rs 4 [some (.ref r0), some (.int l1), some (.int l2)] [] h P) : SW sc m_X1_setNumber d rc rs 0 [some (.ref r0), some (.int l1), some (.int l2)] [] h P := by
  refine sw_iload_n dX1_setNumber_0 rfl ?_
  exact sw_if_lt dX1_setNumber_1 (by decide) (fun q => (sw_fg [true, true, true] rfl (kt q))) (fun q => (kf q))
theorem b_X1_setNumber_4 {r0 : Nat} {l1 : Int32} {l2 : Int32} (kt : 10 ≤ l1 → SW sc m_X1_setNumber d rc rs 17 [none, none, none] [] h P) (kf : ¬ (10 ≤ l1) → SW sc m_X1_setNumber d rc rs 10 [some (.ref r0), some (.int l1), some (.int l2)] [] h P) : SW sc m_X1_setNumber d rc rs 4 [some (.ref r0), some (.int l1), some (.int l2)] [] h P := by
  refine sw_iload_n dX1_setNumber_4 rfl ?_
  refine sw_bipush (v := 10) dX1_setNumber_5 (by decide) ?_
  exact sw_icmp_ge dX1_setNumber_7 (by decide) (fun q => (sw_fg [true, true, true] rfl (kt q))) (fun q => (kf q))
theorem b_X1_setNumber_10 {r0 : Nat} {l1 : Int32} {l2 : Int32} {fs2 : List Value} {a2 : Nat} {vs5 : List Value} (hc2 : (h)[r0]? = some (1, fs2)) (hv2 : fs2[0]? = some (.ref a2)) (hc5 : (h)[a2]? = some (100, vs5)) (ho5 : ¬ l1 < 0) (hl5 : l1.toNatClampNeg < vs5.length) (k : SW sc m_X1_setNumber d rc rs 17 [none, none, none] [] ((h).set a2 (100, vs5.set l1.toNatClampNeg (.int l2))) P) : SW sc m_X1_setNumber d rc rs 10 [some (.ref r0), some (.int l1), some (.int l2)] [] h P := by
  refine sw_aload_n dX1_setNumber_10 rfl ?_
  refine sw_getf dX1_setNumber_11 lf_X1_9 hc2 hv2 ?_
  refine sw_iload_n dX1_setNumber_14 rfl ?_
  refine sw_iload_n dX1_setNumber_15 rfl ?_
  refine sw_iast dX1_setNumber_16 hc5 ho5 hl5 ?_
  exact (sw_fg [true, true, true] rfl (k))
theorem b_X1_setNumber_17  (hP : P (.inl none) h) : SW sc m_X1_setNumber d rc rs 17 [none, none, none] [] h P := by
  exact sw_ret (v := none) dX1_setNumber_17 rt_v hP
theorem b_X1_take_0 {r0 : Nat} {r1 : Nat} {v2 : Int32} {g2 : ab_H} {fs2 : List Value} (hr2 : (h)[r1]? = some (3, fs2)) (hm2 : MSE m_X3_all d [.ref r1] h (some (.int v2)) g2) (k : SW sc m_X1_take (d + 1) rc rs 7 [some (.ref r0), some (.ref r1), some (.int v2), some (.int 0), none] [] g2 P) : SW sc m_X1_take (d + 1) rc rs 0 [some (.ref r0), some (.ref r1), none, none, none] [] h P := by
  refine sw_aload_n dX1_take_0 rfl ?_
  refine sw_cV dX1_take_1 lv_X1_15 hm2 hr2 rfl (by decide) rfl rfl rfl (Nat.le_of_ble_eq_true rfl) (fun _ _ => rfl) rfl ?_
  show SW sc m_X1_take _ _ _ 4 [some (.ref r0), some (.ref r1), none, none, none] [.int v2] g2 P
  refine sw_istore_n dX1_take_4 (by decide) rfl ?_
  show SW sc m_X1_take _ _ _ 5 [some (.ref r0), some (.ref r1), some (.int v2), none, none] [] g2 P
  refine sw_iconst (v := 0) dX1_take_5 (by decide) ?_
  refine sw_istore_n dX1_take_6 (by decide) rfl ?_
  show SW sc m_X1_take _ _ _ 7 [some (.ref r0), some (.ref r1), some (.int v2), some (.int 0), none] [] g2 P
  exact (k)
theorem b_X1_take_7 {r0 : Nat} {r1 : Nat} {l2 : Int32} {l3 : Int32} {fs3 : List Value} {x3 : Int32} {v4 : Int32} {g4 : ab_H} (hc3 : (h)[r1]? = some (3, fs3)) (hv3 : fs3[2]? = some (.int x3)) (hm4 : MSE m_X9_codeLength d [.int x3] h (some (.int v4)) g4) (kt : v4 ≤ l3 → SW sc m_X1_take (d + 1) rc rs 54 [none, none, none, none, none] [] g4 P) (kf : ¬ (v4 ≤ l3) → SW sc m_X1_take (d + 1) rc rs 18 [some (.ref r0), some (.ref r1), some (.int l2), some (.int l3), none] [] g4 P) : SW sc m_X1_take (d + 1) rc rs 7 [some (.ref r0), some (.ref r1), some (.int l2), some (.int l3), none] [] h P := by
  refine sw_iload_n dX1_take_7 rfl ?_
  refine sw_aload_n dX1_take_8 rfl ?_
  refine sw_getf dX1_take_9 lf_X1_21 hc3 hv3 ?_
  refine sw_cS dX1_take_12 ls_X1_25 hm4 rfl rfl (Nat.le_of_ble_eq_true rfl) (fun _ _ => rfl) rfl ?_
  show SW sc m_X1_take _ _ _ 15 [some (.ref r0), some (.ref r1), some (.int l2), some (.int l3), none] [.int v4, .int l3] g4 P
  exact sw_icmp_ge dX1_take_15 (by decide) (fun q => (sw_fg [true, true, true, true, false] rfl (kt q))) (fun q => (kf q))
theorem b_X1_take_18 {r0 : Nat} {r1 : Nat} {l2 : Int32} {l3 : Int32} {v3 : Int32} {g3 : ab_H} {v9 : Int32} {g9 : ab_H} {fs9 : List Value} {v12 : Int32} {g12 : ab_H} {g13 : ab_H} {fs13 : List Value} {v16 : Int32} {g16 : ab_H} (hm3 : MSE m_X1_lowestLeaf d [.ref r1, .int l2] h (some (.int v3)) g3) (hr9 : (g3)[r1]? = some (3, fs9)) (hm9 : MSE m_X3_nearOf d [.ref r1, .int v3] g3 (some (.int v9)) g9) (hm12 : MSE m_X9_lowest d [.int (v9 &&& l2)] g9 (some (.int v12)) g12) (hr13 : (g12)[r0]? = some (1, fs13)) (hm13 : MSE m_X1_setNumber d [.ref r0, .int l3, .int v12] g12 none g13) (hm16 : MSE m_X9_without d [.int l2, .int v3] g13 (some (.int v16)) g16) (k : SW sc m_X1_take (d + 1) rc rs 7 [some (.ref r0), some (.ref r1), some (.int v16), some (.int (l3 + 1)), none] [] g16 P) : SW sc m_X1_take (d + 1) rc rs 18 [some (.ref r0), some (.ref r1), some (.int l2), some (.int l3), none] [] h P := by
  refine sw_aload_n dX1_take_18 rfl ?_
  refine sw_iload_n dX1_take_19 rfl ?_
  refine sw_cS dX1_take_20 ls_X1_29 hm3 rfl rfl (Nat.le_of_ble_eq_true rfl) (fun _ _ => rfl) rfl ?_
  show SW sc m_X1_take _ _ _ 23 [some (.ref r0), some (.ref r1), some (.int l2), some (.int l3), none] [.int v3] g3 P
  refine sw_istore dX1_take_23 (by decide) rfl ?_
  show SW sc m_X1_take _ _ _ 25 [some (.ref r0), some (.ref r1), some (.int l2), some (.int l3), some (.int v3)] [] g3 P
  refine sw_aload_n dX1_take_25 rfl ?_
  refine sw_iload_n dX1_take_26 rfl ?_
  refine sw_aload_n dX1_take_27 rfl ?_
  refine sw_iload dX1_take_28 rfl ?_
  refine sw_cV dX1_take_30 lv_X1_33 hm9 hr9 rfl (by decide) rfl rfl rfl (Nat.le_of_ble_eq_true rfl) (fun _ _ => rfl) rfl ?_
  show SW sc m_X1_take _ _ _ 33 [some (.ref r0), some (.ref r1), some (.int l2), some (.int l3), some (.int v3)] [.int v9, .int l3, .ref r0] g9 P
  refine sw_iload_n dX1_take_33 rfl ?_
  refine sw_iand dX1_take_34 ?_
  refine sw_cS dX1_take_35 ls_X1_36 hm12 rfl rfl (Nat.le_of_ble_eq_true rfl) (fun _ _ => rfl) rfl ?_
  show SW sc m_X1_take _ _ _ 38 [some (.ref r0), some (.ref r1), some (.int l2), some (.int l3), some (.int v3)] [.int v12, .int l3, .ref r0] g12 P
  refine sw_cV dX1_take_38 lv_X1_39 hm13 hr13 rfl (by decide) rfl rfl rfl (Nat.le_of_ble_eq_true rfl) (fun _ _ => rfl) rfl ?_
  show SW sc m_X1_take _ _ _ 41 [some (.ref r0), some (.ref r1), some (.int l2), some (.int l3), some (.int v3)] [] g13 P
  refine sw_iload_n dX1_take_41 rfl ?_
  refine sw_iload dX1_take_42 rfl ?_
  refine sw_cS dX1_take_44 ls_X1_43 hm16 rfl rfl (Nat.le_of_ble_eq_true rfl) (fun _ _ => rfl) rfl ?_
  show SW sc m_X1_take _ _ _ 47 [some (.ref r0), some (.ref r1), some (.int l2), some (.int l3), some (.int v3)] [.int v16] g16 P
  refine sw_istore_n dX1_take_47 (by decide) rfl ?_
  show SW sc m_X1_take _ _ _ 48 [some (.ref r0), some (.ref r1), some (.int v16), some (.int l3), some (.int v3)] [] g16 P
  refine sw_iinc (v := l3 + 1) dX1_take_48 rfl rfl (by decide) rfl ?_
  show SW sc m_X1_take _ _ _ 51 [some (.ref r0), some (.ref r1), some (.int v16), some (.int (l3 + 1)), some (.int v3)] [] g16 P
  exact sw_goto dX1_take_51 (by decide) (sw_fg [false, false, false, false, true] rfl (k))
theorem b_X1_take_54  (hP : P (.inl none) h) : SW sc m_X1_take d rc rs 54 [none, none, none, none, none] [] h P := by
  exact sw_ret (v := none) dX1_take_54 rt_v hP
theorem b_X1_lowestLeaf_0 {r0 : Nat} {l1 : Int32} (k : SW sc m_X1_lowestLeaf d rc rs 2 [some (.ref r0), some (.int l1), some (.int 0)] [] h P) : SW sc m_X1_lowestLeaf d rc rs 0 [some (.ref r0), some (.int l1), none] [] h P := by
  refine sw_iconst (v := 0) dX1_lowestLeaf_0 (by decide) ?_
  refine sw_istore_n dX1_lowestLeaf_1 (by decide) rfl ?_
  show SW sc m_X1_lowestLeaf _ _ _ 2 [some (.ref r0), some (.int l1), some (.int 0)] [] h P
  exact (k)
theorem b_X1_lowestLeaf_2 {r0 : Nat} {l1 : Int32} {l2 : Int32} {fs3 : List Value} {x3 : Int32} (hc3 : (h)[r0]? = some (3, fs3)) (hv3 : fs3[2]? = some (.int x3)) (kt : x3 ≤ l2 → SW sc m_X1_lowestLeaf d rc rs 40 [none, none, none] [] h P) (kf : ¬ (x3 ≤ l2) → SW sc m_X1_lowestLeaf d rc rs 10 [some (.ref r0), some (.int l1), some (.int l2)] [] h P) : SW sc m_X1_lowestLeaf d rc rs 2 [some (.ref r0), some (.int l1), some (.int l2)] [] h P := by
  refine sw_iload_n dX1_lowestLeaf_2 rfl ?_
  refine sw_aload_n dX1_lowestLeaf_3 rfl ?_
  refine sw_getf dX1_lowestLeaf_4 lf_X1_21 hc3 hv3 ?_
  exact sw_icmp_ge dX1_lowestLeaf_7 (by decide) (fun q => (sw_fg [true, true, true] rfl (kt q))) (fun q => (kf q))
theorem b_X1_lowestLeaf_10 {r0 : Nat} {l1 : Int32} {l2 : Int32} {v3 : Int32} {g3 : ab_H} (hm3 : MSE m_X9_holds d [.int l1, .int l2] h (some (.int v3)) g3) (kt : v3 = 0 → SW sc m_X1_lowestLeaf (d + 1) rc rs 34 [some (.ref r0), some (.int l1), some (.int l2)] [] g3 P) (kf : ¬ (v3 = 0) → SW sc m_X1_lowestLeaf (d + 1) rc rs 18 [some (.ref r0), some (.int l1), some (.int l2)] [] g3 P) : SW sc m_X1_lowestLeaf (d + 1) rc rs 10 [some (.ref r0), some (.int l1), some (.int l2)] [] h P := by
  refine sw_iload_n dX1_lowestLeaf_10 rfl ?_
  refine sw_iload_n dX1_lowestLeaf_11 rfl ?_
  refine sw_cS dX1_lowestLeaf_12 ls_X1_47 hm3 rfl rfl (Nat.le_of_ble_eq_true rfl) (fun _ _ => rfl) rfl ?_
  show SW sc m_X1_lowestLeaf _ _ _ 15 [some (.ref r0), some (.int l1), some (.int l2)] [.int v3] g3 P
  exact sw_if_eq dX1_lowestLeaf_15 (by decide) (fun q => (kt q)) (fun q => (kf q))
theorem b_X1_lowestLeaf_18 {r0 : Nat} {l1 : Int32} {l2 : Int32} {v3 : Int32} {g3 : ab_H} {fs3 : List Value} {v6 : Int32} {g6 : ab_H} (hr3 : (h)[r0]? = some (3, fs3)) (hm3 : MSE m_X3_nearOf d [.ref r0, .int l2] h (some (.int v3)) g3) (hm6 : MSE m_J6_bitCount_0f7a4 d [.int (v3 &&& l1)] g3 (some (.int v6)) g6) (kt : ¬ v6 = 1 → SW sc m_X1_lowestLeaf (d + 1) rc rs 34 [some (.ref r0), some (.int l1), some (.int l2)] [] g6 P) (kf : v6 = 1 → SW sc m_X1_lowestLeaf (d + 1) rc rs 32 [none, none, some (.int l2)] [] g6 P) : SW sc m_X1_lowestLeaf (d + 1) rc rs 18 [some (.ref r0), some (.int l1), some (.int l2)] [] h P := by
  refine sw_aload_n dX1_lowestLeaf_18 rfl ?_
  refine sw_iload_n dX1_lowestLeaf_19 rfl ?_
  refine sw_cV dX1_lowestLeaf_20 lv_X1_33 hm3 hr3 rfl (by decide) rfl rfl rfl (Nat.le_of_ble_eq_true rfl) (fun _ _ => rfl) rfl ?_
  show SW sc m_X1_lowestLeaf _ _ _ 23 [some (.ref r0), some (.int l1), some (.int l2)] [.int v3] g3 P
  refine sw_iload_n dX1_lowestLeaf_23 rfl ?_
  refine sw_iand dX1_lowestLeaf_24 ?_
  refine sw_cS dX1_lowestLeaf_25 ls_X1_51 hm6 rfl rfl (Nat.le_of_ble_eq_true rfl) (fun _ _ => rfl) rfl ?_
  show SW sc m_X1_lowestLeaf _ _ _ 28 [some (.ref r0), some (.int l1), some (.int l2)] [.int v6] g6 P
  refine sw_iconst (v := 1) dX1_lowestLeaf_28 (by decide) ?_
  exact sw_icmp_ne dX1_lowestLeaf_29 (by decide) (fun q => (kt q)) (fun q => (sw_fg [true, true, false] rfl (kf q)))
theorem b_X1_lowestLeaf_32 {l2 : Int32} (hP : P (.inl (some (.int l2))) h) : SW sc m_X1_lowestLeaf d rc rs 32 [none, none, some (.int l2)] [] h P := by
  refine sw_iload_n dX1_lowestLeaf_32 rfl ?_
  exact sw_ret (v := (some (.int l2))) dX1_lowestLeaf_33 rt_i hP
theorem b_X1_lowestLeaf_34 {r0 : Nat} {l1 : Int32} {l2 : Int32} (k : SW sc m_X1_lowestLeaf d rc rs 2 [some (.ref r0), some (.int l1), some (.int (l2 + 1))] [] h P) : SW sc m_X1_lowestLeaf d rc rs 34 [some (.ref r0), some (.int l1), some (.int l2)] [] h P := by
  refine sw_iinc (v := l2 + 1) dX1_lowestLeaf_34 rfl rfl (by decide) rfl ?_
  show SW sc m_X1_lowestLeaf _ _ _ 37 [some (.ref r0), some (.int l1), some (.int (l2 + 1))] [] h P
  exact sw_goto dX1_lowestLeaf_37 (by decide) (k)
theorem b_X1_lowestLeaf_40  (hP : P (.inl (some (.int (-1)))) h) : SW sc m_X1_lowestLeaf d rc rs 40 [none, none, none] [] h P := by
  refine sw_iconst (v := (-1)) dX1_lowestLeaf_40 (by decide) ?_
  exact sw_ret (v := (some (.int (-1)))) dX1_lowestLeaf_41 rt_i hP
theorem b_X1_rankOf_0 {r0 : Nat} {r1 : Nat} {g3 : ab_H} {fs3 : List Value} (hr3 : (h)[r0]? = some (1, fs3)) (hm3 : MSE m_X1_take d [.ref r0, .ref r1] h none g3) (k : SW sc m_X1_rankOf (d + 1) rc rs 9 [some (.ref r0), some (.ref r1), some (.int 0), some (.int 0)] [] g3 P) : SW sc m_X1_rankOf (d + 1) rc rs 0 [some (.ref r0), some (.ref r1), none, none] [] h P := by
  refine sw_aload_n dX1_rankOf_0 rfl ?_
  refine sw_aload_n dX1_rankOf_1 rfl ?_
  refine sw_cV dX1_rankOf_2 lv_X1_56 hm3 hr3 rfl (by decide) rfl rfl rfl (Nat.le_of_ble_eq_true rfl) (fun _ _ => rfl) rfl ?_
  show SW sc m_X1_rankOf _ _ _ 5 [some (.ref r0), some (.ref r1), none, none] [] g3 P
  refine sw_iconst (v := 0) dX1_rankOf_5 (by decide) ?_
  refine sw_istore_n dX1_rankOf_6 (by decide) rfl ?_
  show SW sc m_X1_rankOf _ _ _ 7 [some (.ref r0), some (.ref r1), some (.int 0), none] [] g3 P
  refine sw_iconst (v := 0) dX1_rankOf_7 (by decide) ?_
  refine sw_istore_n dX1_rankOf_8 (by decide) rfl ?_
  show SW sc m_X1_rankOf _ _ _ 9 [some (.ref r0), some (.ref r1), some (.int 0), some (.int 0)] [] g3 P
  exact (k)
theorem b_X1_rankOf_9 {r0 : Nat} {r1 : Nat} {l2 : Int32} {l3 : Int32} {fs3 : List Value} {x3 : Int32} {v4 : Int32} {g4 : ab_H} (hc3 : (h)[r1]? = some (3, fs3)) (hv3 : fs3[2]? = some (.int x3)) (hm4 : MSE m_X9_codeLength d [.int x3] h (some (.int v4)) g4) (kt : v4 ≤ l3 → SW sc m_X1_rankOf (d + 1) rc rs 39 [none, none, some (.int l2), none] [] g4 P) (kf : ¬ (v4 ≤ l3) → SW sc m_X1_rankOf (d + 1) rc rs 20 [some (.ref r0), some (.ref r1), some (.int l2), some (.int l3)] [] g4 P) : SW sc m_X1_rankOf (d + 1) rc rs 9 [some (.ref r0), some (.ref r1), some (.int l2), some (.int l3)] [] h P := by
  refine sw_iload_n dX1_rankOf_9 rfl ?_
  refine sw_aload_n dX1_rankOf_10 rfl ?_
  refine sw_getf dX1_rankOf_11 lf_X1_21 hc3 hv3 ?_
  refine sw_cS dX1_rankOf_14 ls_X1_25 hm4 rfl rfl (Nat.le_of_ble_eq_true rfl) (fun _ _ => rfl) rfl ?_
  show SW sc m_X1_rankOf _ _ _ 17 [some (.ref r0), some (.ref r1), some (.int l2), some (.int l3)] [.int v4, .int l3] g4 P
  exact sw_icmp_ge dX1_rankOf_17 (by decide) (fun q => (sw_fg [true, true, false, true] rfl (kt q))) (fun q => (kf q))
theorem b_X1_rankOf_20 {r0 : Nat} {r1 : Nat} {l2 : Int32} {l3 : Int32} {fs3 : List Value} {x3 : Int32} {v7 : Int32} {g7 : ab_H} {fs7 : List Value} (hc3 : (h)[r1]? = some (3, fs3)) (hv3 : fs3[2]? = some (.int x3)) (hr7 : (h)[r0]? = some (1, fs7)) (hm7 : MSE m_X1_number d [.ref r0, .int l3] h (some (.int v7)) g7) (k : SW sc m_X1_rankOf (d + 1) rc rs 9 [some (.ref r0), some (.ref r1), some (.int ((l2 * x3) + v7)), some (.int (l3 + 1))] [] g7 P) : SW sc m_X1_rankOf (d + 1) rc rs 20 [some (.ref r0), some (.ref r1), some (.int l2), some (.int l3)] [] h P := by
  refine sw_iload_n dX1_rankOf_20 rfl ?_
  refine sw_aload_n dX1_rankOf_21 rfl ?_
  refine sw_getf dX1_rankOf_22 lf_X1_21 hc3 hv3 ?_
  refine sw_imul dX1_rankOf_25 ?_
  refine sw_aload_n dX1_rankOf_26 rfl ?_
  refine sw_iload_n dX1_rankOf_27 rfl ?_
  refine sw_cV dX1_rankOf_28 lv_X1_60 hm7 hr7 rfl (by decide) rfl rfl rfl (Nat.le_of_ble_eq_true rfl) (fun _ _ => rfl) rfl ?_
  show SW sc m_X1_rankOf _ _ _ 31 [some (.ref r0), some (.ref r1), some (.int l2), some (.int l3)] [.int v7, .int (l2 * x3)] g7 P
  refine sw_iadd dX1_rankOf_31 ?_
  refine sw_istore_n dX1_rankOf_32 (by decide) rfl ?_
  show SW sc m_X1_rankOf _ _ _ 33 [some (.ref r0), some (.ref r1), some (.int ((l2 * x3) + v7)), some (.int l3)] [] g7 P
  refine sw_iinc (v := l3 + 1) dX1_rankOf_33 rfl rfl (by decide) rfl ?_
  show SW sc m_X1_rankOf _ _ _ 36 [some (.ref r0), some (.ref r1), some (.int ((l2 * x3) + v7)), some (.int (l3 + 1))] [] g7 P
  exact sw_goto dX1_rankOf_36 (by decide) (k)
theorem b_X1_rankOf_39 {l2 : Int32} (hP : P (.inl (some (.int l2))) h) : SW sc m_X1_rankOf d rc rs 39 [none, none, some (.int l2), none] [] h P := by
  refine sw_iload_n dX1_rankOf_39 rfl ?_
  exact sw_ret (v := (some (.int l2))) dX1_rankOf_40 rt_i hP
theorem b_X1_setRank_0 {r0 : Nat} {l1 : Int32} {l2 : Int32} {v4 : Int32} {g4 : ab_H} (hm4 : MSE m_X9_codeLength d [.int l1] h (some (.int v4)) g4) (k : SW sc m_X1_setRank (d + 1) rc rs 10 [some (.ref r0), some (.int l1), none, some (.int l2), some (.int (v4 - 1))] [] g4 P) : SW sc m_X1_setRank (d + 1) rc rs 0 [some (.ref r0), some (.int l1), some (.int l2), none, none] [] h P := by
  refine sw_iload_n dX1_setRank_0 rfl ?_
  refine sw_istore_n dX1_setRank_1 (by decide) rfl ?_
  show SW sc m_X1_setRank _ _ _ 2 [some (.ref r0), some (.int l1), some (.int l2), some (.int l2), none] [] h P
  refine sw_iload_n dX1_setRank_2 rfl ?_
  refine sw_cS dX1_setRank_3 ls_X1_25 hm4 rfl rfl (Nat.le_of_ble_eq_true rfl) (fun _ _ => rfl) rfl ?_
  show SW sc m_X1_setRank _ _ _ 6 [some (.ref r0), some (.int l1), some (.int l2), some (.int l2), none] [.int v4] g4 P
  refine sw_iconst (v := 1) dX1_setRank_6 (by decide) ?_
  refine sw_isub dX1_setRank_7 ?_
  refine sw_istore dX1_setRank_8 (by decide) rfl ?_
  show SW sc m_X1_setRank _ _ _ 10 [some (.ref r0), some (.int l1), some (.int l2), some (.int l2), some (.int (v4 - 1))] [] g4 P
  exact (sw_fg [false, false, true, false, false] rfl (k))
theorem b_X1_setRank_10 {r0 : Nat} {l1 : Int32} {l3 : Int32} {l4 : Int32} (kt : l4 < 0 → SW sc m_X1_setRank d rc rs 38 [none, none, none, none, none] [] h P) (kf : ¬ (l4 < 0) → SW sc m_X1_setRank d rc rs 15 [some (.ref r0), some (.int l1), none, some (.int l3), some (.int l4)] [] h P) : SW sc m_X1_setRank d rc rs 10 [some (.ref r0), some (.int l1), none, some (.int l3), some (.int l4)] [] h P := by
  refine sw_iload dX1_setRank_10 rfl ?_
  exact sw_if_lt dX1_setRank_12 (by decide) (fun q => (sw_fg [true, true, false, true, true] rfl (kt q))) (fun q => (kf q))
theorem b_X1_setRank_15 {r0 : Nat} {l1 : Int32} {l3 : Int32} {l4 : Int32} (kt : l1 ≤ 0 → SW sc m_X1_setRank d rc rs 38 [none, none, none, none, none] [] h P) (kf : ¬ (l1 ≤ 0) → SW sc m_X1_setRank d rc rs 19 [some (.ref r0), some (.int l1), none, some (.int l3), some (.int l4)] [] h P) : SW sc m_X1_setRank d rc rs 15 [some (.ref r0), some (.int l1), none, some (.int l3), some (.int l4)] [] h P := by
  refine sw_iload_n dX1_setRank_15 rfl ?_
  exact sw_if_le dX1_setRank_16 (by decide) (fun q => (sw_fg [true, true, false, true, true] rfl (kt q))) (fun q => (kf q))
theorem b_X1_setRank_19 {r0 : Nat} {l1 : Int32} {l3 : Int32} {l4 : Int32} {g6 : ab_H} {fs6 : List Value} (hz5 : ¬ l1 = 0) (hr6 : (h)[r0]? = some (1, fs6)) (hm6 : MSE m_X1_setNumber d [.ref r0, .int l4, .int (l3 - l3 / l1 * l1)] h none g6) (hz9 : ¬ l1 = 0) (k : SW sc m_X1_setRank (d + 1) rc rs 10 [some (.ref r0), some (.int l1), none, some (.int (l3 / l1)), some (.int (l4 + (-1)))] [] g6 P) : SW sc m_X1_setRank (d + 1) rc rs 19 [some (.ref r0), some (.int l1), none, some (.int l3), some (.int l4)] [] h P := by
  refine sw_aload_n dX1_setRank_19 rfl ?_
  refine sw_iload dX1_setRank_20 rfl ?_
  refine sw_iload_n dX1_setRank_22 rfl ?_
  refine sw_iload_n dX1_setRank_23 rfl ?_
  refine sw_irem dX1_setRank_24 hz5 ?_
  refine sw_cV dX1_setRank_25 lv_X1_39 hm6 hr6 rfl (by decide) rfl rfl rfl (Nat.le_of_ble_eq_true rfl) (fun _ _ => rfl) rfl ?_
  show SW sc m_X1_setRank _ _ _ 28 [some (.ref r0), some (.int l1), none, some (.int l3), some (.int l4)] [] g6 P
  refine sw_iload_n dX1_setRank_28 rfl ?_
  refine sw_iload_n dX1_setRank_29 rfl ?_
  refine sw_idiv dX1_setRank_30 hz9 ?_
  refine sw_istore_n dX1_setRank_31 (by decide) rfl ?_
  show SW sc m_X1_setRank _ _ _ 32 [some (.ref r0), some (.int l1), none, some (.int (l3 / l1)), some (.int l4)] [] g6 P
  refine sw_iinc (v := l4 + (-1)) dX1_setRank_32 rfl rfl (by decide) rfl ?_
  show SW sc m_X1_setRank _ _ _ 35 [some (.ref r0), some (.int l1), none, some (.int (l3 / l1)), some (.int (l4 + (-1)))] [] g6 P
  exact sw_goto dX1_setRank_35 (by decide) (k)
theorem b_X1_setRank_38  (hP : P (.inl none) h) : SW sc m_X1_setRank d rc rs 38 [none, none, none, none, none] [] h P := by
  exact sw_ret (v := none) dX1_setRank_38 rt_v hP
theorem b_X1_plant_0 {r0 : Nat} {r1 : Nat} {g2 : ab_H} {fs2 : List Value} {v4 : Int32} {g4 : ab_H} {fs4 : List Value} (hr2 : (h)[r1]? = some (3, fs2)) (hm2 : MSE m_X3_dropEdges d [.ref r1] h none g2) (hr4 : (g2)[r1]? = some (3, fs4)) (hm4 : MSE m_X3_all d [.ref r1] g2 (some (.int v4)) g4) (k : SW sc m_X1_plant (d + 1) rc rs 11 [some (.ref r0), some (.ref r1), some (.int v4), some (.int 0), none] [] g4 P) : SW sc m_X1_plant (d + 1) rc rs 0 [some (.ref r0), some (.ref r1), none, none, none] [] h P := by
  refine sw_aload_n dX1_plant_0 rfl ?_
  refine sw_cV dX1_plant_1 lv_X1_63 hm2 hr2 rfl (by decide) rfl rfl rfl (Nat.le_of_ble_eq_true rfl) (fun _ _ => rfl) rfl ?_
  show SW sc m_X1_plant _ _ _ 4 [some (.ref r0), some (.ref r1), none, none, none] [] g2 P
  refine sw_aload_n dX1_plant_4 rfl ?_
  refine sw_cV dX1_plant_5 lv_X1_15 hm4 hr4 rfl (by decide) rfl rfl rfl (Nat.le_of_ble_eq_true rfl) (fun _ _ => rfl) rfl ?_
  show SW sc m_X1_plant _ _ _ 8 [some (.ref r0), some (.ref r1), none, none, none] [.int v4] g4 P
  refine sw_istore_n dX1_plant_8 (by decide) rfl ?_
  show SW sc m_X1_plant _ _ _ 9 [some (.ref r0), some (.ref r1), some (.int v4), none, none] [] g4 P
  refine sw_iconst (v := 0) dX1_plant_9 (by decide) ?_
  refine sw_istore_n dX1_plant_10 (by decide) rfl ?_
  show SW sc m_X1_plant _ _ _ 11 [some (.ref r0), some (.ref r1), some (.int v4), some (.int 0), none] [] g4 P
  exact (k)
theorem b_X1_plant_11 {r0 : Nat} {r1 : Nat} {l2 : Int32} {l3 : Int32} {fs3 : List Value} {x3 : Int32} {v4 : Int32} {g4 : ab_H} (hc3 : (h)[r1]? = some (3, fs3)) (hv3 : fs3[2]? = some (.int x3)) (hm4 : MSE m_X9_codeLength d [.int x3] h (some (.int v4)) g4) (kt : v4 ≤ l3 → SW sc m_X1_plant (d + 1) rc rs 67 [none, some (.ref r1), some (.int l2), none, none] [] g4 P) (kf : ¬ (v4 ≤ l3) → SW sc m_X1_plant (d + 1) rc rs 22 [some (.ref r0), some (.ref r1), some (.int l2), some (.int l3), none] [] g4 P) : SW sc m_X1_plant (d + 1) rc rs 11 [some (.ref r0), some (.ref r1), some (.int l2), some (.int l3), none] [] h P := by
  refine sw_iload_n dX1_plant_11 rfl ?_
  refine sw_aload_n dX1_plant_12 rfl ?_
  refine sw_getf dX1_plant_13 lf_X1_21 hc3 hv3 ?_
  refine sw_cS dX1_plant_16 ls_X1_25 hm4 rfl rfl (Nat.le_of_ble_eq_true rfl) (fun _ _ => rfl) rfl ?_
  show SW sc m_X1_plant _ _ _ 19 [some (.ref r0), some (.ref r1), some (.int l2), some (.int l3), none] [.int v4, .int l3] g4 P
  exact sw_icmp_ge dX1_plant_19 (by decide) (fun q => (sw_fg [true, false, false, true, false] rfl (kt q))) (fun q => (kf q))
theorem b_X1_plant_22 {r0 : Nat} {r1 : Nat} {l2 : Int32} {l3 : Int32} {fs5 : List Value} {x5 : Int32} {v6 : Int32} {g6 : ab_H} {v7 : Int32} {g7 : ab_H} {fs7 : List Value} {v11 : Int32} {g11 : ab_H} {v17 : Int32} {g17 : ab_H} {fs17 : List Value} {g18 : ab_H} {fs18 : List Value} {v21 : Int32} {g21 : ab_H} (hc5 : (h)[r1]? = some (3, fs5)) (hv5 : fs5[2]? = some (.int x5)) (hm6 : MSE m_X9_codeLength d [.int x5] h (some (.int v6)) g6) (hr7 : (g6)[r0]? = some (1, fs7)) (hm7 : MSE m_X1_namedFrom d [.ref r0, .int l3, .int v6] g6 (some (.int v7)) g7) (hm11 : MSE m_X9_lowest d [.int (l2 &&& (v7 ^^^ (-1)))] g7 (some (.int v11)) g11) (hr17 : (g11)[r0]? = some (1, fs17)) (hm17 : MSE m_X1_number d [.ref r0, .int l3] g11 (some (.int v17)) g17) (hr18 : (g17)[r1]? = some (3, fs18)) (hm18 : MSE m_X3_join d [.ref r1, .int v11, .int v17] g17 none g18) (hm21 : MSE m_X9_without d [.int l2, .int v11] g18 (some (.int v21)) g21) (k : SW sc m_X1_plant (d + 1) rc rs 11 [some (.ref r0), some (.ref r1), some (.int v21), some (.int (l3 + 1)), none] [] g21 P) : SW sc m_X1_plant (d + 1) rc rs 22 [some (.ref r0), some (.ref r1), some (.int l2), some (.int l3), none] [] h P := by
  refine sw_iload_n dX1_plant_22 rfl ?_
  refine sw_aload_n dX1_plant_23 rfl ?_
  refine sw_iload_n dX1_plant_24 rfl ?_
  refine sw_aload_n dX1_plant_25 rfl ?_
  refine sw_getf dX1_plant_26 lf_X1_21 hc5 hv5 ?_
  refine sw_cS dX1_plant_29 ls_X1_25 hm6 rfl rfl (Nat.le_of_ble_eq_true rfl) (fun _ _ => rfl) rfl ?_
  show SW sc m_X1_plant _ _ _ 32 [some (.ref r0), some (.ref r1), some (.int l2), some (.int l3), none] [.int v6, .int l3, .ref r0, .int l2] g6 P
  refine sw_cV dX1_plant_32 lv_X1_66 hm7 hr7 rfl (by decide) rfl rfl rfl (Nat.le_of_ble_eq_true rfl) (fun _ _ => rfl) rfl ?_
  show SW sc m_X1_plant _ _ _ 35 [some (.ref r0), some (.ref r1), some (.int l2), some (.int l3), none] [.int v7, .int l2] g7 P
  refine sw_iconst (v := (-1)) dX1_plant_35 (by decide) ?_
  refine sw_ixor dX1_plant_36 ?_
  refine sw_iand dX1_plant_37 ?_
  refine sw_cS dX1_plant_38 ls_X1_36 hm11 rfl rfl (Nat.le_of_ble_eq_true rfl) (fun _ _ => rfl) rfl ?_
  show SW sc m_X1_plant _ _ _ 41 [some (.ref r0), some (.ref r1), some (.int l2), some (.int l3), none] [.int v11] g11 P
  refine sw_istore dX1_plant_41 (by decide) rfl ?_
  show SW sc m_X1_plant _ _ _ 43 [some (.ref r0), some (.ref r1), some (.int l2), some (.int l3), some (.int v11)] [] g11 P
  refine sw_aload_n dX1_plant_43 rfl ?_
  refine sw_iload dX1_plant_44 rfl ?_
  refine sw_aload_n dX1_plant_46 rfl ?_
  refine sw_iload_n dX1_plant_47 rfl ?_
  refine sw_cV dX1_plant_48 lv_X1_60 hm17 hr17 rfl (by decide) rfl rfl rfl (Nat.le_of_ble_eq_true rfl) (fun _ _ => rfl) rfl ?_
  show SW sc m_X1_plant _ _ _ 51 [some (.ref r0), some (.ref r1), some (.int l2), some (.int l3), some (.int v11)] [.int v17, .int v11, .ref r1] g17 P
  refine sw_cV dX1_plant_51 lv_X1_69 hm18 hr18 rfl (by decide) rfl rfl rfl (Nat.le_of_ble_eq_true rfl) (fun _ _ => rfl) rfl ?_
  show SW sc m_X1_plant _ _ _ 54 [some (.ref r0), some (.ref r1), some (.int l2), some (.int l3), some (.int v11)] [] g18 P
  refine sw_iload_n dX1_plant_54 rfl ?_
  refine sw_iload dX1_plant_55 rfl ?_
  refine sw_cS dX1_plant_57 ls_X1_43 hm21 rfl rfl (Nat.le_of_ble_eq_true rfl) (fun _ _ => rfl) rfl ?_
  show SW sc m_X1_plant _ _ _ 60 [some (.ref r0), some (.ref r1), some (.int l2), some (.int l3), some (.int v11)] [.int v21] g21 P
  refine sw_istore_n dX1_plant_60 (by decide) rfl ?_
  show SW sc m_X1_plant _ _ _ 61 [some (.ref r0), some (.ref r1), some (.int v21), some (.int l3), some (.int v11)] [] g21 P
  refine sw_iinc (v := l3 + 1) dX1_plant_61 rfl rfl (by decide) rfl ?_
  show SW sc m_X1_plant _ _ _ 64 [some (.ref r0), some (.ref r1), some (.int v21), some (.int (l3 + 1)), some (.int v11)] [] g21 P
  exact sw_goto dX1_plant_64 (by decide) (sw_fg [false, false, false, false, true] rfl (k))
theorem b_X1_plant_67 {r1 : Nat} {l2 : Int32} {v2 : Int32} {g2 : ab_H} {v8 : Int32} {g8 : ab_H} {v9 : Int32} {g9 : ab_H} {g10 : ab_H} {fs10 : List Value} (hm2 : MSE m_X9_lowest d [.int l2] h (some (.int v2)) g2) (hm8 : MSE m_X9_without d [.int l2, .int v2] g2 (some (.int v8)) g8) (hm9 : MSE m_X9_lowest d [.int v8] g8 (some (.int v9)) g9) (hr10 : (g9)[r1]? = some (3, fs10)) (hm10 : MSE m_X3_join d [.ref r1, .int v2, .int v9] g9 none g10) (hP : P (.inl none) g10) : SW sc m_X1_plant (d + 1) rc rs 67 [none, some (.ref r1), some (.int l2), none, none] [] h P := by
  refine sw_iload_n dX1_plant_67 rfl ?_
  refine sw_cS dX1_plant_68 ls_X1_36 hm2 rfl rfl (Nat.le_of_ble_eq_true rfl) (fun _ _ => rfl) rfl ?_
  show SW sc m_X1_plant _ _ _ 71 [none, some (.ref r1), some (.int l2), none, none] [.int v2] g2 P
  refine sw_istore_n dX1_plant_71 (by decide) rfl ?_
  show SW sc m_X1_plant _ _ _ 72 [none, some (.ref r1), some (.int l2), some (.int v2), none] [] g2 P
  refine sw_aload_n dX1_plant_72 rfl ?_
  refine sw_iload_n dX1_plant_73 rfl ?_
  refine sw_iload_n dX1_plant_74 rfl ?_
  refine sw_iload_n dX1_plant_75 rfl ?_
  refine sw_cS dX1_plant_76 ls_X1_43 hm8 rfl rfl (Nat.le_of_ble_eq_true rfl) (fun _ _ => rfl) rfl ?_
  show SW sc m_X1_plant _ _ _ 79 [none, some (.ref r1), some (.int l2), some (.int v2), none] [.int v8, .int v2, .ref r1] g8 P
  refine sw_cS dX1_plant_79 ls_X1_36 hm9 rfl rfl (Nat.le_of_ble_eq_true rfl) (fun _ _ => rfl) rfl ?_
  show SW sc m_X1_plant _ _ _ 82 [none, some (.ref r1), some (.int l2), some (.int v2), none] [.int v9, .int v2, .ref r1] g9 P
  refine sw_cV dX1_plant_82 lv_X1_69 hm10 hr10 rfl (by decide) rfl rfl rfl (Nat.le_of_ble_eq_true rfl) (fun _ _ => rfl) rfl ?_
  show SW sc m_X1_plant _ _ _ 85 [none, some (.ref r1), some (.int l2), some (.int v2), none] [] g10 P
  exact sw_ret (v := none) dX1_plant_85 rt_v hP
theorem b_X1_namedFrom_0 {r0 : Nat} {l1 : Int32} {l2 : Int32} (k : SW sc m_X1_namedFrom d rc rs 5 [some (.ref r0), none, some (.int l2), some (.int 0), some (.int l1)] [] h P) : SW sc m_X1_namedFrom d rc rs 0 [some (.ref r0), some (.int l1), some (.int l2), none, none] [] h P := by
  refine sw_iconst (v := 0) dX1_namedFrom_0 (by decide) ?_
  refine sw_istore_n dX1_namedFrom_1 (by decide) rfl ?_
  show SW sc m_X1_namedFrom _ _ _ 2 [some (.ref r0), some (.int l1), some (.int l2), some (.int 0), none] [] h P
  refine sw_iload_n dX1_namedFrom_2 rfl ?_
  refine sw_istore dX1_namedFrom_3 (by decide) rfl ?_
  show SW sc m_X1_namedFrom _ _ _ 5 [some (.ref r0), some (.int l1), some (.int l2), some (.int 0), some (.int l1)] [] h P
  exact (sw_fg [false, true, false, false, false] rfl (k))
theorem b_X1_namedFrom_5 {r0 : Nat} {l2 : Int32} {l3 : Int32} {l4 : Int32} (kt : l2 ≤ l4 → SW sc m_X1_namedFrom d rc rs 28 [none, none, none, some (.int l3), none] [] h P) (kf : ¬ (l2 ≤ l4) → SW sc m_X1_namedFrom d rc rs 11 [some (.ref r0), none, some (.int l2), some (.int l3), some (.int l4)] [] h P) : SW sc m_X1_namedFrom d rc rs 5 [some (.ref r0), none, some (.int l2), some (.int l3), some (.int l4)] [] h P := by
  refine sw_iload dX1_namedFrom_5 rfl ?_
  refine sw_iload_n dX1_namedFrom_7 rfl ?_
  exact sw_icmp_ge dX1_namedFrom_8 (by decide) (fun q => (sw_fg [true, false, true, false, true] rfl (kt q))) (fun q => (kf q))
theorem b_X1_namedFrom_11 {r0 : Nat} {l2 : Int32} {l3 : Int32} {l4 : Int32} {v5 : Int32} {g5 : ab_H} {fs5 : List Value} (hr5 : (h)[r0]? = some (1, fs5)) (hm5 : MSE m_X1_number d [.ref r0, .int l4] h (some (.int v5)) g5) (k : SW sc m_X1_namedFrom (d + 1) rc rs 5 [some (.ref r0), none, some (.int l2), some (.int (l3 ||| (1 <<< (v5 &&& 31)))), some (.int (l4 + 1))] [] g5 P) : SW sc m_X1_namedFrom (d + 1) rc rs 11 [some (.ref r0), none, some (.int l2), some (.int l3), some (.int l4)] [] h P := by
  refine sw_iload_n dX1_namedFrom_11 rfl ?_
  refine sw_iconst (v := 1) dX1_namedFrom_12 (by decide) ?_
  refine sw_aload_n dX1_namedFrom_13 rfl ?_
  refine sw_iload dX1_namedFrom_14 rfl ?_
  refine sw_cV dX1_namedFrom_16 lv_X1_60 hm5 hr5 rfl (by decide) rfl rfl rfl (Nat.le_of_ble_eq_true rfl) (fun _ _ => rfl) rfl ?_
  show SW sc m_X1_namedFrom _ _ _ 19 [some (.ref r0), none, some (.int l2), some (.int l3), some (.int l4)] [.int v5, .int 1, .int l3] g5 P
  refine sw_ishl dX1_namedFrom_19 ?_
  refine sw_ior dX1_namedFrom_20 ?_
  refine sw_istore_n dX1_namedFrom_21 (by decide) rfl ?_
  show SW sc m_X1_namedFrom _ _ _ 22 [some (.ref r0), none, some (.int l2), some (.int (l3 ||| (1 <<< (v5 &&& 31)))), some (.int l4)] [] g5 P
  refine sw_iinc (v := l4 + 1) dX1_namedFrom_22 rfl rfl (by decide) rfl ?_
  show SW sc m_X1_namedFrom _ _ _ 25 [some (.ref r0), none, some (.int l2), some (.int (l3 ||| (1 <<< (v5 &&& 31)))), some (.int (l4 + 1))] [] g5 P
  exact sw_goto dX1_namedFrom_25 (by decide) (k)
theorem b_X1_namedFrom_28 {l3 : Int32} (hP : P (.inl (some (.int l3))) h) : SW sc m_X1_namedFrom d rc rs 28 [none, none, none, some (.int l3), none] [] h P := by
  refine sw_iload_n dX1_namedFrom_28 rfl ?_
  exact sw_ret (v := (some (.int l3))) dX1_namedFrom_29 rt_i hP
theorem b_X2_treesWithLeaves_0 {r0 : Nat} {l1 : Int32} {l2 : Int32} (kt : ¬ l1 = 1 → SW sc m_X2_treesWithLeaves d rc rs 15 [some (.ref r0), some (.int l1), some (.int l2), none, none] [] h P) (kf : l1 = 1 → SW sc m_X2_treesWithLeaves d rc rs 5 [none, none, some (.int l2), none, none] [] h P) : SW sc m_X2_treesWithLeaves d rc rs 0 [some (.ref r0), some (.int l1), some (.int l2), none, none] [] h P := by
  refine sw_iload_n dX2_treesWithLeaves_0 rfl ?_
  refine sw_iconst (v := 1) dX2_treesWithLeaves_1 (by decide) ?_
  exact sw_icmp_ne dX2_treesWithLeaves_2 (by decide) (fun q => (kt q)) (fun q => (sw_fg [true, true, false, false, false] rfl (kf q)))
theorem b_X2_treesWithLeaves_5 {l2 : Int32} (kt : ¬ l2 = 0 → SW sc m_X2_treesWithLeaves d rc rs 13 [none, none, none, none, none] [] h P) (kf : l2 = 0 → SW sc m_X2_treesWithLeaves d rc rs 9 [none, none, none, none, none] [] h P) : SW sc m_X2_treesWithLeaves d rc rs 5 [none, none, some (.int l2), none, none] [] h P := by
  refine sw_iload_n dX2_treesWithLeaves_5 rfl ?_
  exact sw_if_ne dX2_treesWithLeaves_6 (by decide) (fun q => (sw_fg [false, false, true, false, false] rfl (kt q))) (fun q => (sw_fg [false, false, true, false, false] rfl (kf q)))
theorem b_X2_treesWithLeaves_9  (k : SW sc m_X2_treesWithLeaves d rc rs 14 [none, none, none, none, none] [.int 1] h P) : SW sc m_X2_treesWithLeaves d rc rs 9 [none, none, none, none, none] [] h P := by
  refine sw_iconst (v := 1) dX2_treesWithLeaves_9 (by decide) ?_
  exact sw_goto dX2_treesWithLeaves_10 (by decide) (k)
theorem b_X2_treesWithLeaves_13  (k : SW sc m_X2_treesWithLeaves d rc rs 14 [none, none, none, none, none] [.int 0] h P) : SW sc m_X2_treesWithLeaves d rc rs 13 [none, none, none, none, none] [] h P := by
  refine sw_iconst (v := 0) dX2_treesWithLeaves_13 (by decide) ?_
  exact (k)
theorem b_X2_treesWithLeaves_14 {s0 : Int32} (hP : P (.inl (some (.int s0))) h) : SW sc m_X2_treesWithLeaves d rc rs 14 [none, none, none, none, none] [.int s0] h P := by
  exact sw_ret (v := (some (.int s0))) dX2_treesWithLeaves_14 rt_i hP
theorem b_X2_treesWithLeaves_15 {r0 : Nat} {l1 : Int32} {l2 : Int32} (kt : l2 ≤ l1 → SW sc m_X2_treesWithLeaves d rc rs 22 [some (.ref r0), some (.int l1), some (.int l2), none, none] [] h P) (kf : ¬ (l2 ≤ l1) → SW sc m_X2_treesWithLeaves d rc rs 20 [none, none, none, none, none] [] h P) : SW sc m_X2_treesWithLeaves d rc rs 15 [some (.ref r0), some (.int l1), some (.int l2), none, none] [] h P := by
  refine sw_iload_n dX2_treesWithLeaves_15 rfl ?_
  refine sw_iload_n dX2_treesWithLeaves_16 rfl ?_
  exact sw_icmp_le dX2_treesWithLeaves_17 (by decide) (fun q => (kt q)) (fun q => (sw_fg [true, true, true, false, false] rfl (kf q)))
theorem b_X2_treesWithLeaves_20  (hP : P (.inl (some (.int 0))) h) : SW sc m_X2_treesWithLeaves d rc rs 20 [none, none, none, none, none] [] h P := by
  refine sw_iconst (v := 0) dX2_treesWithLeaves_20 (by decide) ?_
  exact sw_ret (v := (some (.int 0))) dX2_treesWithLeaves_21 rt_i hP
theorem b_X2_treesWithLeaves_22 {r0 : Nat} {l1 : Int32} {l2 : Int32} {v8 : Int32} {g8 : ab_H} {fs8 : List Value} (hr8 : (h)[r0]? = some (2, fs8)) (hm8 : MSE m_X2_partitionsOf d [.ref r0, .int (l1 - 2), .int (l1 - l2)] h (some (.int v8)) g8) (k : SW sc m_X2_treesWithLeaves (d + 1) rc rs 38 [none, some (.int l1), none, some (.int v8), some (.int (l2 + 1))] [] g8 P) : SW sc m_X2_treesWithLeaves (d + 1) rc rs 22 [some (.ref r0), some (.int l1), some (.int l2), none, none] [] h P := by
  refine sw_aload_n dX2_treesWithLeaves_22 rfl ?_
  refine sw_iload_n dX2_treesWithLeaves_23 rfl ?_
  refine sw_iconst (v := 2) dX2_treesWithLeaves_24 (by decide) ?_
  refine sw_isub dX2_treesWithLeaves_25 ?_
  refine sw_iload_n dX2_treesWithLeaves_26 rfl ?_
  refine sw_iload_n dX2_treesWithLeaves_27 rfl ?_
  refine sw_isub dX2_treesWithLeaves_28 ?_
  refine sw_cV dX2_treesWithLeaves_29 lv_X2_21 hm8 hr8 rfl (by decide) rfl rfl rfl (Nat.le_of_ble_eq_true rfl) (fun _ _ => rfl) rfl ?_
  show SW sc m_X2_treesWithLeaves _ _ _ 32 [some (.ref r0), some (.int l1), some (.int l2), none, none] [.int v8] g8 P
  refine sw_istore_n dX2_treesWithLeaves_32 (by decide) rfl ?_
  show SW sc m_X2_treesWithLeaves _ _ _ 33 [some (.ref r0), some (.int l1), some (.int l2), some (.int v8), none] [] g8 P
  refine sw_iload_n dX2_treesWithLeaves_33 rfl ?_
  refine sw_iconst (v := 1) dX2_treesWithLeaves_34 (by decide) ?_
  refine sw_iadd dX2_treesWithLeaves_35 ?_
  refine sw_istore dX2_treesWithLeaves_36 (by decide) rfl ?_
  show SW sc m_X2_treesWithLeaves _ _ _ 38 [some (.ref r0), some (.int l1), some (.int l2), some (.int v8), some (.int (l2 + 1))] [] g8 P
  exact (sw_fg [true, false, true, false, false] rfl (k))
theorem b_X2_treesWithLeaves_38 {l1 : Int32} {l3 : Int32} {l4 : Int32} (kt : l1 < l4 → SW sc m_X2_treesWithLeaves d rc rs 55 [none, none, none, some (.int l3), none] [] h P) (kf : ¬ (l1 < l4) → SW sc m_X2_treesWithLeaves d rc rs 44 [none, some (.int l1), none, some (.int l3), some (.int l4)] [] h P) : SW sc m_X2_treesWithLeaves d rc rs 38 [none, some (.int l1), none, some (.int l3), some (.int l4)] [] h P := by
  refine sw_iload dX2_treesWithLeaves_38 rfl ?_
  refine sw_iload_n dX2_treesWithLeaves_40 rfl ?_
  exact sw_icmp_gt dX2_treesWithLeaves_41 (by decide) (fun q => (sw_fg [false, true, false, false, true] rfl (kt q))) (fun q => (kf q))
theorem b_X2_treesWithLeaves_44 {l1 : Int32} {l3 : Int32} {l4 : Int32} (k : SW sc m_X2_treesWithLeaves d rc rs 38 [none, some (.int l1), none, some (.int (l3 * l4)), some (.int (l4 + 1))] [] h P) : SW sc m_X2_treesWithLeaves d rc rs 44 [none, some (.int l1), none, some (.int l3), some (.int l4)] [] h P := by
  refine sw_iload_n dX2_treesWithLeaves_44 rfl ?_
  refine sw_iload dX2_treesWithLeaves_45 rfl ?_
  refine sw_imul dX2_treesWithLeaves_47 ?_
  refine sw_istore_n dX2_treesWithLeaves_48 (by decide) rfl ?_
  show SW sc m_X2_treesWithLeaves _ _ _ 49 [none, some (.int l1), none, some (.int (l3 * l4)), some (.int l4)] [] h P
  refine sw_iinc (v := l4 + 1) dX2_treesWithLeaves_49 rfl rfl (by decide) rfl ?_
  show SW sc m_X2_treesWithLeaves _ _ _ 52 [none, some (.int l1), none, some (.int (l3 * l4)), some (.int (l4 + 1))] [] h P
  exact sw_goto dX2_treesWithLeaves_52 (by decide) (k)
theorem b_X2_treesWithLeaves_55 {l3 : Int32} (hP : P (.inl (some (.int l3))) h) : SW sc m_X2_treesWithLeaves d rc rs 55 [none, none, none, some (.int l3), none] [] h P := by
  refine sw_iload_n dX2_treesWithLeaves_55 rfl ?_
  exact sw_ret (v := (some (.int l3))) dX2_treesWithLeaves_56 rt_i hP
theorem b_X2_partitionsOf_0 {r0 : Nat} {l1 : Int32} {l2 : Int32} (kt : l2 < 0 → SW sc m_X2_partitionsOf d rc rs 10 [none, none, none, none, none] [] h P) (kf : ¬ (l2 < 0) → SW sc m_X2_partitionsOf d rc rs 4 [some (.ref r0), some (.int l1), some (.int l2), none, none] [] h P) : SW sc m_X2_partitionsOf d rc rs 0 [some (.ref r0), some (.int l1), some (.int l2), none, none] [] h P := by
  refine sw_iload_n dX2_partitionsOf_0 rfl ?_
  exact sw_if_lt dX2_partitionsOf_1 (by decide) (fun q => (sw_fg [true, true, true, false, false] rfl (kt q))) (fun q => (kf q))
theorem b_X2_partitionsOf_4 {r0 : Nat} {l1 : Int32} {l2 : Int32} (kt : l2 ≤ 10 → SW sc m_X2_partitionsOf d rc rs 12 [some (.ref r0), some (.int l1), some (.int l2), none, none] [] h P) (kf : ¬ (l2 ≤ 10) → SW sc m_X2_partitionsOf d rc rs 10 [none, none, none, none, none] [] h P) : SW sc m_X2_partitionsOf d rc rs 4 [some (.ref r0), some (.int l1), some (.int l2), none, none] [] h P := by
  refine sw_iload_n dX2_partitionsOf_4 rfl ?_
  refine sw_bipush (v := 10) dX2_partitionsOf_5 (by decide) ?_
  exact sw_icmp_le dX2_partitionsOf_7 (by decide) (fun q => (kt q)) (fun q => (sw_fg [true, true, true, false, false] rfl (kf q)))
theorem b_X2_partitionsOf_10  (hP : P (.inl (some (.int 0))) h) : SW sc m_X2_partitionsOf d rc rs 10 [none, none, none, none, none] [] h P := by
  refine sw_iconst (v := 0) dX2_partitionsOf_10 (by decide) ?_
  exact sw_ret (v := (some (.int 0))) dX2_partitionsOf_11 rt_i hP
theorem b_X2_partitionsOf_12 {r0 : Nat} {l1 : Int32} {l2 : Int32} {fs2 : List Value} {a2 : Nat} {g4 : ab_H} {fs6 : List Value} {a6 : Nat} {vs9 : List Value} (hc2 : (h)[r0]? = some (2, fs2)) (hv2 : fs2[0]? = some (.ref a2)) (hm4 : MSE m_J7_fill_53178 d [.ref a2, .int 0] h none g4) (hc6 : (g4)[r0]? = some (2, fs6)) (hv6 : fs6[0]? = some (.ref a6)) (hc9 : (g4)[a6]? = some (100, vs9)) (ho9 : ¬ 0 < 0) (hl9 : (0 : Int32).toNatClampNeg < vs9.length) (k : SW sc m_X2_partitionsOf (d + 1) rc rs 29 [some (.ref r0), some (.int l1), some (.int l2), some (.int 0), none] [] ((g4).set a6 (100, vs9.set (0 : Int32).toNatClampNeg (.int 1))) P) : SW sc m_X2_partitionsOf (d + 1) rc rs 12 [some (.ref r0), some (.int l1), some (.int l2), none, none] [] h P := by
  refine sw_aload_n dX2_partitionsOf_12 rfl ?_
  refine sw_getf dX2_partitionsOf_13 lf_X2_9 hc2 hv2 ?_
  refine sw_iconst (v := 0) dX2_partitionsOf_16 (by decide) ?_
  refine sw_cS dX2_partitionsOf_17 ls_X2_25 hm4 rfl rfl (Nat.le_of_ble_eq_true rfl) (fun _ _ => rfl) rfl ?_
  show SW sc m_X2_partitionsOf _ _ _ 20 [some (.ref r0), some (.int l1), some (.int l2), none, none] [] g4 P
  refine sw_aload_n dX2_partitionsOf_20 rfl ?_
  refine sw_getf dX2_partitionsOf_21 lf_X2_9 hc6 hv6 ?_
  refine sw_iconst (v := 0) dX2_partitionsOf_24 (by decide) ?_
  refine sw_iconst (v := 1) dX2_partitionsOf_25 (by decide) ?_
  refine sw_iast dX2_partitionsOf_26 hc9 ho9 hl9 ?_
  refine sw_iconst (v := 0) dX2_partitionsOf_27 (by decide) ?_
  refine sw_istore_n dX2_partitionsOf_28 (by decide) rfl ?_
  show SW sc m_X2_partitionsOf _ _ _ 29 [some (.ref r0), some (.int l1), some (.int l2), some (.int 0), none] [] ((g4).set a6 (100, vs9.set (0 : Int32).toNatClampNeg (.int 1))) P
  exact (k)
theorem b_X2_partitionsOf_29 {r0 : Nat} {l1 : Int32} {l2 : Int32} {l3 : Int32} (kt : l1 ≤ l3 → SW sc m_X2_partitionsOf d rc rs 89 [some (.ref r0), none, some (.int l2), none, none] [] h P) (kf : ¬ (l1 ≤ l3) → SW sc m_X2_partitionsOf d rc rs 34 [some (.ref r0), some (.int l1), some (.int l2), some (.int l3), none] [] h P) : SW sc m_X2_partitionsOf d rc rs 29 [some (.ref r0), some (.int l1), some (.int l2), some (.int l3), none] [] h P := by
  refine sw_iload_n dX2_partitionsOf_29 rfl ?_
  refine sw_iload_n dX2_partitionsOf_30 rfl ?_
  exact sw_icmp_ge dX2_partitionsOf_31 (by decide) (fun q => (sw_fg [false, true, false, true, false] rfl (kt q))) (fun q => (kf q))
theorem b_X2_partitionsOf_34 {r0 : Nat} {l1 : Int32} {l2 : Int32} {l3 : Int32} (k : SW sc m_X2_partitionsOf d rc rs 38 [some (.ref r0), some (.int l1), some (.int l2), some (.int l3), some (.int 10)] [] h P) : SW sc m_X2_partitionsOf d rc rs 34 [some (.ref r0), some (.int l1), some (.int l2), some (.int l3), none] [] h P := by
  refine sw_bipush (v := 10) dX2_partitionsOf_34 (by decide) ?_
  refine sw_istore dX2_partitionsOf_36 (by decide) rfl ?_
  show SW sc m_X2_partitionsOf _ _ _ 38 [some (.ref r0), some (.int l1), some (.int l2), some (.int l3), some (.int 10)] [] h P
  exact (k)
theorem b_X2_partitionsOf_38 {r0 : Nat} {l1 : Int32} {l2 : Int32} {l3 : Int32} {l4 : Int32} (kt : l4 ≤ 0 → SW sc m_X2_partitionsOf d rc rs 76 [some (.ref r0), some (.int l1), some (.int l2), some (.int l3), none] [] h P) (kf : ¬ (l4 ≤ 0) → SW sc m_X2_partitionsOf d rc rs 43 [some (.ref r0), some (.int l1), some (.int l2), some (.int l3), some (.int l4)] [] h P) : SW sc m_X2_partitionsOf d rc rs 38 [some (.ref r0), some (.int l1), some (.int l2), some (.int l3), some (.int l4)] [] h P := by
  refine sw_iload dX2_partitionsOf_38 rfl ?_
  exact sw_if_le dX2_partitionsOf_40 (by decide) (fun q => (sw_fg [false, false, false, false, true] rfl (kt q))) (fun q => (kf q))
theorem b_X2_partitionsOf_43 {r0 : Nat} {l1 : Int32} {l2 : Int32} {l3 : Int32} {l4 : Int32} {fs2 : List Value} {a2 : Nat} {fs6 : List Value} {a6 : Nat} {vs8 : List Value} {x8 : Int32} {fs11 : List Value} {a11 : Nat} {vs15 : List Value} {x15 : Int32} {vs17 : List Value} (hc2 : (h)[r0]? = some (2, fs2)) (hv2 : fs2[0]? = some (.ref a2)) (hc6 : (h)[r0]? = some (2, fs6)) (hv6 : fs6[0]? = some (.ref a6)) (hc8 : (h)[a6]? = some (100, vs8)) (ho8 : ¬ l4 < 0) (hi8 : vs8[l4.toNatClampNeg]? = some (.int x8)) (hc11 : (h)[r0]? = some (2, fs11)) (hv11 : fs11[0]? = some (.ref a11)) (hc15 : (h)[a11]? = some (100, vs15)) (ho15 : ¬ (l4 - 1) < 0) (hi15 : vs15[(l4 - 1).toNatClampNeg]? = some (.int x15)) (hc17 : (h)[a2]? = some (100, vs17)) (ho17 : ¬ l4 < 0) (hl17 : l4.toNatClampNeg < vs17.length) (k : SW sc m_X2_partitionsOf d rc rs 38 [some (.ref r0), some (.int l1), some (.int l2), some (.int l3), some (.int (l4 + (-1)))] [] ((h).set a2 (100, vs17.set l4.toNatClampNeg (.int ((l4 * x8) + x15)))) P) : SW sc m_X2_partitionsOf d rc rs 43 [some (.ref r0), some (.int l1), some (.int l2), some (.int l3), some (.int l4)] [] h P := by
  refine sw_aload_n dX2_partitionsOf_43 rfl ?_
  refine sw_getf dX2_partitionsOf_44 lf_X2_9 hc2 hv2 ?_
  refine sw_iload dX2_partitionsOf_47 rfl ?_
  refine sw_iload dX2_partitionsOf_49 rfl ?_
  refine sw_aload_n dX2_partitionsOf_51 rfl ?_
  refine sw_getf dX2_partitionsOf_52 lf_X2_9 hc6 hv6 ?_
  refine sw_iload dX2_partitionsOf_55 rfl ?_
  refine sw_iald dX2_partitionsOf_57 hc8 ho8 hi8 ?_
  refine sw_imul dX2_partitionsOf_58 ?_
  refine sw_aload_n dX2_partitionsOf_59 rfl ?_
  refine sw_getf dX2_partitionsOf_60 lf_X2_9 hc11 hv11 ?_
  refine sw_iload dX2_partitionsOf_63 rfl ?_
  refine sw_iconst (v := 1) dX2_partitionsOf_65 (by decide) ?_
  refine sw_isub dX2_partitionsOf_66 ?_
  refine sw_iald dX2_partitionsOf_67 hc15 ho15 hi15 ?_
  refine sw_iadd dX2_partitionsOf_68 ?_
  refine sw_iast dX2_partitionsOf_69 hc17 ho17 hl17 ?_
  refine sw_iinc (v := l4 + (-1)) dX2_partitionsOf_70 rfl rfl (by decide) rfl ?_
  show SW sc m_X2_partitionsOf _ _ _ 73 [some (.ref r0), some (.int l1), some (.int l2), some (.int l3), some (.int (l4 + (-1)))] [] ((h).set a2 (100, vs17.set l4.toNatClampNeg (.int ((l4 * x8) + x15)))) P
  exact sw_goto dX2_partitionsOf_73 (by decide) (k)
theorem b_X2_partitionsOf_76 {r0 : Nat} {l1 : Int32} {l2 : Int32} {l3 : Int32} {fs2 : List Value} {a2 : Nat} {vs5 : List Value} (hc2 : (h)[r0]? = some (2, fs2)) (hv2 : fs2[0]? = some (.ref a2)) (hc5 : (h)[a2]? = some (100, vs5)) (ho5 : ¬ 0 < 0) (hl5 : (0 : Int32).toNatClampNeg < vs5.length) (k : SW sc m_X2_partitionsOf d rc rs 29 [some (.ref r0), some (.int l1), some (.int l2), some (.int (l3 + 1)), none] [] ((h).set a2 (100, vs5.set (0 : Int32).toNatClampNeg (.int 0))) P) : SW sc m_X2_partitionsOf d rc rs 76 [some (.ref r0), some (.int l1), some (.int l2), some (.int l3), none] [] h P := by
  refine sw_aload_n dX2_partitionsOf_76 rfl ?_
  refine sw_getf dX2_partitionsOf_77 lf_X2_9 hc2 hv2 ?_
  refine sw_iconst (v := 0) dX2_partitionsOf_80 (by decide) ?_
  refine sw_iconst (v := 0) dX2_partitionsOf_81 (by decide) ?_
  refine sw_iast dX2_partitionsOf_82 hc5 ho5 hl5 ?_
  refine sw_iinc (v := l3 + 1) dX2_partitionsOf_83 rfl rfl (by decide) rfl ?_
  show SW sc m_X2_partitionsOf _ _ _ 86 [some (.ref r0), some (.int l1), some (.int l2), some (.int (l3 + 1)), none] [] ((h).set a2 (100, vs5.set (0 : Int32).toNatClampNeg (.int 0))) P
  exact sw_goto dX2_partitionsOf_86 (by decide) (k)
theorem b_X2_partitionsOf_89 {r0 : Nat} {l2 : Int32} {fs2 : List Value} {a2 : Nat} {vs4 : List Value} {x4 : Int32} (hc2 : (h)[r0]? = some (2, fs2)) (hv2 : fs2[0]? = some (.ref a2)) (hc4 : (h)[a2]? = some (100, vs4)) (ho4 : ¬ l2 < 0) (hi4 : vs4[l2.toNatClampNeg]? = some (.int x4)) (hP : P (.inl (some (.int x4))) h) : SW sc m_X2_partitionsOf d rc rs 89 [some (.ref r0), none, some (.int l2), none, none] [] h P := by
  refine sw_aload_n dX2_partitionsOf_89 rfl ?_
  refine sw_getf dX2_partitionsOf_90 lf_X2_9 hc2 hv2 ?_
  refine sw_iload_n dX2_partitionsOf_93 rfl ?_
  refine sw_iald dX2_partitionsOf_94 hc4 ho4 hi4 ?_
  exact sw_ret (v := (some (.int x4))) dX2_partitionsOf_95 rt_i hP
theorem b_X2_rootedClasses_0 {r0 : Nat} {l1 : Int32} {g2 : ab_H} {fs2 : List Value} (hr2 : (h)[r0]? = some (2, fs2)) (hm2 : MSE m_X2_countRooted d [.ref r0] h none g2) (kt : l1 < 1 → SW sc m_X2_rootedClasses (d + 1) rc rs 24 [none, none] [] g2 P) (kf : ¬ (l1 < 1) → SW sc m_X2_rootedClasses (d + 1) rc rs 9 [some (.ref r0), some (.int l1)] [] g2 P) : SW sc m_X2_rootedClasses (d + 1) rc rs 0 [some (.ref r0), some (.int l1)] [] h P := by
  refine sw_aload_n dX2_rootedClasses_0 rfl ?_
  refine sw_cV dX2_rootedClasses_1 lv_X2_31 hm2 hr2 rfl (by decide) rfl rfl rfl (Nat.le_of_ble_eq_true rfl) (fun _ _ => rfl) rfl ?_
  show SW sc m_X2_rootedClasses _ _ _ 4 [some (.ref r0), some (.int l1)] [] g2 P
  refine sw_iload_n dX2_rootedClasses_4 rfl ?_
  refine sw_iconst (v := 1) dX2_rootedClasses_5 (by decide) ?_
  exact sw_icmp_lt dX2_rootedClasses_6 (by decide) (fun q => (sw_fg [true, true] rfl (kt q))) (fun q => (kf q))
theorem b_X2_rootedClasses_9 {r0 : Nat} {l1 : Int32} (kt : 10 < l1 → SW sc m_X2_rootedClasses d rc rs 24 [none, none] [] h P) (kf : ¬ (10 < l1) → SW sc m_X2_rootedClasses d rc rs 15 [some (.ref r0), some (.int l1)] [] h P) : SW sc m_X2_rootedClasses d rc rs 9 [some (.ref r0), some (.int l1)] [] h P := by
  refine sw_iload_n dX2_rootedClasses_9 rfl ?_
  refine sw_bipush (v := 10) dX2_rootedClasses_10 (by decide) ?_
  exact sw_icmp_gt dX2_rootedClasses_12 (by decide) (fun q => (sw_fg [true, true] rfl (kt q))) (fun q => (kf q))
theorem b_X2_rootedClasses_15 {r0 : Nat} {l1 : Int32} {fs2 : List Value} {a2 : Nat} {vs4 : List Value} {x4 : Int32} (hc2 : (h)[r0]? = some (2, fs2)) (hv2 : fs2[1]? = some (.ref a2)) (hc4 : (h)[a2]? = some (100, vs4)) (ho4 : ¬ l1 < 0) (hi4 : vs4[l1.toNatClampNeg]? = some (.int x4)) (k : SW sc m_X2_rootedClasses d rc rs 25 [none, none] [.int x4] h P) : SW sc m_X2_rootedClasses d rc rs 15 [some (.ref r0), some (.int l1)] [] h P := by
  refine sw_aload_n dX2_rootedClasses_15 rfl ?_
  refine sw_getf dX2_rootedClasses_16 lf_X2_15 hc2 hv2 ?_
  refine sw_iload_n dX2_rootedClasses_19 rfl ?_
  refine sw_iald dX2_rootedClasses_20 hc4 ho4 hi4 ?_
  exact sw_goto dX2_rootedClasses_21 (by decide) (sw_fg [true, true] rfl (k))
theorem b_X2_rootedClasses_24  (k : SW sc m_X2_rootedClasses d rc rs 25 [none, none] [.int 0] h P) : SW sc m_X2_rootedClasses d rc rs 24 [none, none] [] h P := by
  refine sw_iconst (v := 0) dX2_rootedClasses_24 (by decide) ?_
  exact (k)
theorem b_X2_rootedClasses_25 {s0 : Int32} (hP : P (.inl (some (.int s0))) h) : SW sc m_X2_rootedClasses d rc rs 25 [none, none] [.int s0] h P := by
  exact sw_ret (v := (some (.int s0))) dX2_rootedClasses_25 rt_i hP
theorem b_X2_countRooted_0 {r0 : Nat} {fs2 : List Value} {a2 : Nat} {g4 : ab_H} {fs6 : List Value} {a6 : Nat} {vs9 : List Value} (hc2 : (h)[r0]? = some (2, fs2)) (hv2 : fs2[2]? = some (.ref a2)) (hm4 : MSE m_J7_fill_53178 d [.ref a2, .int 0] h none g4) (hc6 : (g4)[r0]? = some (2, fs6)) (hv6 : fs6[1]? = some (.ref a6)) (hc9 : (g4)[a6]? = some (100, vs9)) (ho9 : ¬ 1 < 0) (hl9 : (1 : Int32).toNatClampNeg < vs9.length) (k : SW sc m_X2_countRooted (d + 1) rc rs 17 [some (.ref r0), some (.int 1), none, none] [] ((g4).set a6 (100, vs9.set (1 : Int32).toNatClampNeg (.int 1))) P) : SW sc m_X2_countRooted (d + 1) rc rs 0 [some (.ref r0), none, none, none] [] h P := by
  refine sw_aload_n dX2_countRooted_0 rfl ?_
  refine sw_getf dX2_countRooted_1 lf_X2_18 hc2 hv2 ?_
  refine sw_iconst (v := 0) dX2_countRooted_4 (by decide) ?_
  refine sw_cS dX2_countRooted_5 ls_X2_25 hm4 rfl rfl (Nat.le_of_ble_eq_true rfl) (fun _ _ => rfl) rfl ?_
  show SW sc m_X2_countRooted _ _ _ 8 [some (.ref r0), none, none, none] [] g4 P
  refine sw_aload_n dX2_countRooted_8 rfl ?_
  refine sw_getf dX2_countRooted_9 lf_X2_15 hc6 hv6 ?_
  refine sw_iconst (v := 1) dX2_countRooted_12 (by decide) ?_
  refine sw_iconst (v := 1) dX2_countRooted_13 (by decide) ?_
  refine sw_iast dX2_countRooted_14 hc9 ho9 hl9 ?_
  refine sw_iconst (v := 1) dX2_countRooted_15 (by decide) ?_
  refine sw_istore_n dX2_countRooted_16 (by decide) rfl ?_
  show SW sc m_X2_countRooted _ _ _ 17 [some (.ref r0), some (.int 1), none, none] [] ((g4).set a6 (100, vs9.set (1 : Int32).toNatClampNeg (.int 1))) P
  exact (k)
theorem b_X2_countRooted_17 {r0 : Nat} {l1 : Int32} (kt : 10 ≤ l1 → SW sc m_X2_countRooted d rc rs 107 [none, none, none, none] [] h P) (kf : ¬ (10 ≤ l1) → SW sc m_X2_countRooted d rc rs 23 [some (.ref r0), some (.int l1), none, none] [] h P) : SW sc m_X2_countRooted d rc rs 17 [some (.ref r0), some (.int l1), none, none] [] h P := by
  refine sw_iload_n dX2_countRooted_17 rfl ?_
  refine sw_bipush (v := 10) dX2_countRooted_18 (by decide) ?_
  exact sw_icmp_ge dX2_countRooted_20 (by decide) (fun q => (sw_fg [true, true, false, false] rfl (kt q))) (fun q => (kf q))
theorem b_X2_countRooted_23 {r0 : Nat} {l1 : Int32} (k : SW sc m_X2_countRooted d rc rs 25 [some (.ref r0), some (.int l1), some (.int l1), none] [] h P) : SW sc m_X2_countRooted d rc rs 23 [some (.ref r0), some (.int l1), none, none] [] h P := by
  refine sw_iload_n dX2_countRooted_23 rfl ?_
  refine sw_istore_n dX2_countRooted_24 (by decide) rfl ?_
  show SW sc m_X2_countRooted _ _ _ 25 [some (.ref r0), some (.int l1), some (.int l1), none] [] h P
  exact (k)
theorem b_X2_countRooted_25 {r0 : Nat} {l1 : Int32} {l2 : Int32} (kt : 10 < l2 → SW sc m_X2_countRooted d rc rs 55 [some (.ref r0), some (.int l1), none, none] [] h P) (kf : ¬ (10 < l2) → SW sc m_X2_countRooted d rc rs 31 [some (.ref r0), some (.int l1), some (.int l2), none] [] h P) : SW sc m_X2_countRooted d rc rs 25 [some (.ref r0), some (.int l1), some (.int l2), none] [] h P := by
  refine sw_iload_n dX2_countRooted_25 rfl ?_
  refine sw_bipush (v := 10) dX2_countRooted_26 (by decide) ?_
  exact sw_icmp_gt dX2_countRooted_28 (by decide) (fun q => (sw_fg [false, false, true, false] rfl (kt q))) (fun q => (kf q))
theorem b_X2_countRooted_31 {r0 : Nat} {l1 : Int32} {l2 : Int32} {fs2 : List Value} {a2 : Nat} {vs5 : List Value} {x5 : Int32} {fs8 : List Value} {a8 : Nat} {vs10 : List Value} {x10 : Int32} {vs13 : List Value} (hc2 : (h)[r0]? = some (2, fs2)) (hv2 : fs2[2]? = some (.ref a2)) (hc5 : (h)[a2]? = some (100, vs5)) (ho5 : ¬ l2 < 0) (hi5 : vs5[l2.toNatClampNeg]? = some (.int x5)) (hc8 : (h)[r0]? = some (2, fs8)) (hv8 : fs8[1]? = some (.ref a8)) (hc10 : (h)[a8]? = some (100, vs10)) (ho10 : ¬ l1 < 0) (hi10 : vs10[l1.toNatClampNeg]? = some (.int x10)) (hc13 : (h)[a2]? = some (100, vs13)) (ho13 : ¬ l2 < 0) (hl13 : l2.toNatClampNeg < vs13.length) (k : SW sc m_X2_countRooted d rc rs 25 [some (.ref r0), some (.int l1), some (.int (l2 + l1)), none] [] ((h).set a2 (100, vs13.set l2.toNatClampNeg (.int (x5 + (l1 * x10))))) P) : SW sc m_X2_countRooted d rc rs 31 [some (.ref r0), some (.int l1), some (.int l2), none] [] h P := by
  refine sw_aload_n dX2_countRooted_31 rfl ?_
  refine sw_getf dX2_countRooted_32 lf_X2_18 hc2 hv2 ?_
  refine sw_iload_n dX2_countRooted_35 rfl ?_
  refine sw_dup2 dX2_countRooted_36 (fun _ _ => rfl) (fun _ _ => rfl) ?_
  refine sw_iald dX2_countRooted_37 hc5 ho5 hi5 ?_
  refine sw_iload_n dX2_countRooted_38 rfl ?_
  refine sw_aload_n dX2_countRooted_39 rfl ?_
  refine sw_getf dX2_countRooted_40 lf_X2_15 hc8 hv8 ?_
  refine sw_iload_n dX2_countRooted_43 rfl ?_
  refine sw_iald dX2_countRooted_44 hc10 ho10 hi10 ?_
  refine sw_imul dX2_countRooted_45 ?_
  refine sw_iadd dX2_countRooted_46 ?_
  refine sw_iast dX2_countRooted_47 hc13 ho13 hl13 ?_
  refine sw_iload_n dX2_countRooted_48 rfl ?_
  refine sw_iload_n dX2_countRooted_49 rfl ?_
  refine sw_iadd dX2_countRooted_50 ?_
  refine sw_istore_n dX2_countRooted_51 (by decide) rfl ?_
  show SW sc m_X2_countRooted _ _ _ 52 [some (.ref r0), some (.int l1), some (.int (l2 + l1)), none] [] ((h).set a2 (100, vs13.set l2.toNatClampNeg (.int (x5 + (l1 * x10))))) P
  exact sw_goto dX2_countRooted_52 (by decide) (k)
theorem b_X2_countRooted_55 {r0 : Nat} {l1 : Int32} (k : SW sc m_X2_countRooted d rc rs 59 [some (.ref r0), some (.int l1), some (.int 0), some (.int 1)] [] h P) : SW sc m_X2_countRooted d rc rs 55 [some (.ref r0), some (.int l1), none, none] [] h P := by
  refine sw_iconst (v := 0) dX2_countRooted_55 (by decide) ?_
  refine sw_istore_n dX2_countRooted_56 (by decide) rfl ?_
  show SW sc m_X2_countRooted _ _ _ 57 [some (.ref r0), some (.int l1), some (.int 0), none] [] h P
  refine sw_iconst (v := 1) dX2_countRooted_57 (by decide) ?_
  refine sw_istore_n dX2_countRooted_58 (by decide) rfl ?_
  show SW sc m_X2_countRooted _ _ _ 59 [some (.ref r0), some (.int l1), some (.int 0), some (.int 1)] [] h P
  exact (k)
theorem b_X2_countRooted_59 {r0 : Nat} {l1 : Int32} {l2 : Int32} {l3 : Int32} (kt : l1 < l3 → SW sc m_X2_countRooted d rc rs 90 [some (.ref r0), some (.int l1), some (.int l2), none] [] h P) (kf : ¬ (l1 < l3) → SW sc m_X2_countRooted d rc rs 64 [some (.ref r0), some (.int l1), some (.int l2), some (.int l3)] [] h P) : SW sc m_X2_countRooted d rc rs 59 [some (.ref r0), some (.int l1), some (.int l2), some (.int l3)] [] h P := by
  refine sw_iload_n dX2_countRooted_59 rfl ?_
  refine sw_iload_n dX2_countRooted_60 rfl ?_
  exact sw_icmp_gt dX2_countRooted_61 (by decide) (fun q => (sw_fg [false, false, false, true] rfl (kt q))) (fun q => (kf q))
theorem b_X2_countRooted_64 {r0 : Nat} {l1 : Int32} {l2 : Int32} {l3 : Int32} {fs3 : List Value} {a3 : Nat} {vs5 : List Value} {x5 : Int32} {fs7 : List Value} {a7 : Nat} {vs13 : List Value} {x13 : Int32} (hc3 : (h)[r0]? = some (2, fs3)) (hv3 : fs3[2]? = some (.ref a3)) (hc5 : (h)[a3]? = some (100, vs5)) (ho5 : ¬ l3 < 0) (hi5 : vs5[l3.toNatClampNeg]? = some (.int x5)) (hc7 : (h)[r0]? = some (2, fs7)) (hv7 : fs7[1]? = some (.ref a7)) (hc13 : (h)[a7]? = some (100, vs13)) (ho13 : ¬ ((l1 + 1) - l3) < 0) (hi13 : vs13[((l1 + 1) - l3).toNatClampNeg]? = some (.int x13)) (k : SW sc m_X2_countRooted d rc rs 59 [some (.ref r0), some (.int l1), some (.int (l2 + (x5 * x13))), some (.int (l3 + 1))] [] h P) : SW sc m_X2_countRooted d rc rs 64 [some (.ref r0), some (.int l1), some (.int l2), some (.int l3)] [] h P := by
  refine sw_iload_n dX2_countRooted_64 rfl ?_
  refine sw_aload_n dX2_countRooted_65 rfl ?_
  refine sw_getf dX2_countRooted_66 lf_X2_18 hc3 hv3 ?_
  refine sw_iload_n dX2_countRooted_69 rfl ?_
  refine sw_iald dX2_countRooted_70 hc5 ho5 hi5 ?_
  refine sw_aload_n dX2_countRooted_71 rfl ?_
  refine sw_getf dX2_countRooted_72 lf_X2_15 hc7 hv7 ?_
  refine sw_iload_n dX2_countRooted_75 rfl ?_
  refine sw_iconst (v := 1) dX2_countRooted_76 (by decide) ?_
  refine sw_iadd dX2_countRooted_77 ?_
  refine sw_iload_n dX2_countRooted_78 rfl ?_
  refine sw_isub dX2_countRooted_79 ?_
  refine sw_iald dX2_countRooted_80 hc13 ho13 hi13 ?_
  refine sw_imul dX2_countRooted_81 ?_
  refine sw_iadd dX2_countRooted_82 ?_
  refine sw_istore_n dX2_countRooted_83 (by decide) rfl ?_
  show SW sc m_X2_countRooted _ _ _ 84 [some (.ref r0), some (.int l1), some (.int (l2 + (x5 * x13))), some (.int l3)] [] h P
  refine sw_iinc (v := l3 + 1) dX2_countRooted_84 rfl rfl (by decide) rfl ?_
  show SW sc m_X2_countRooted _ _ _ 87 [some (.ref r0), some (.int l1), some (.int (l2 + (x5 * x13))), some (.int (l3 + 1))] [] h P
  exact sw_goto dX2_countRooted_87 (by decide) (k)
theorem b_X2_countRooted_90 {r0 : Nat} {l1 : Int32} {l2 : Int32} {fs2 : List Value} {a2 : Nat} {vs9 : List Value} (hc2 : (h)[r0]? = some (2, fs2)) (hv2 : fs2[1]? = some (.ref a2)) (hz8 : ¬ l1 = 0) (hc9 : (h)[a2]? = some (100, vs9)) (ho9 : ¬ (l1 + 1) < 0) (hl9 : (l1 + 1).toNatClampNeg < vs9.length) (k : SW sc m_X2_countRooted d rc rs 17 [some (.ref r0), some (.int (l1 + 1)), none, none] [] ((h).set a2 (100, vs9.set (l1 + 1).toNatClampNeg (.int (l2 / l1)))) P) : SW sc m_X2_countRooted d rc rs 90 [some (.ref r0), some (.int l1), some (.int l2), none] [] h P := by
  refine sw_aload_n dX2_countRooted_90 rfl ?_
  refine sw_getf dX2_countRooted_91 lf_X2_15 hc2 hv2 ?_
  refine sw_iload_n dX2_countRooted_94 rfl ?_
  refine sw_iconst (v := 1) dX2_countRooted_95 (by decide) ?_
  refine sw_iadd dX2_countRooted_96 ?_
  refine sw_iload_n dX2_countRooted_97 rfl ?_
  refine sw_iload_n dX2_countRooted_98 rfl ?_
  refine sw_idiv dX2_countRooted_99 hz8 ?_
  refine sw_iast dX2_countRooted_100 hc9 ho9 hl9 ?_
  refine sw_iinc (v := l1 + 1) dX2_countRooted_101 rfl rfl (by decide) rfl ?_
  show SW sc m_X2_countRooted _ _ _ 104 [some (.ref r0), some (.int (l1 + 1)), some (.int l2), none] [] ((h).set a2 (100, vs9.set (l1 + 1).toNatClampNeg (.int (l2 / l1)))) P
  exact sw_goto dX2_countRooted_104 (by decide) (sw_fg [false, false, true, false] rfl (k))
theorem b_X2_countRooted_107  (hP : P (.inl none) h) : SW sc m_X2_countRooted d rc rs 107 [none, none, none, none] [] h P := by
  exact sw_ret (v := none) dX2_countRooted_107 rt_v hP
theorem b_X2_freeClasses_0 {r0 : Nat} {l1 : Int32} (kt : l1 < 1 → SW sc m_X2_freeClasses d rc rs 11 [none, none, none, none] [] h P) (kf : ¬ (l1 < 1) → SW sc m_X2_freeClasses d rc rs 5 [some (.ref r0), some (.int l1), none, none] [] h P) : SW sc m_X2_freeClasses d rc rs 0 [some (.ref r0), some (.int l1), none, none] [] h P := by
  refine sw_iload_n dX2_freeClasses_0 rfl ?_
  refine sw_iconst (v := 1) dX2_freeClasses_1 (by decide) ?_
  exact sw_icmp_lt dX2_freeClasses_2 (by decide) (fun q => (sw_fg [true, true, false, false] rfl (kt q))) (fun q => (kf q))
theorem b_X2_freeClasses_5 {r0 : Nat} {l1 : Int32} (kt : l1 ≤ 10 → SW sc m_X2_freeClasses d rc rs 13 [some (.ref r0), some (.int l1), none, none] [] h P) (kf : ¬ (l1 ≤ 10) → SW sc m_X2_freeClasses d rc rs 11 [none, none, none, none] [] h P) : SW sc m_X2_freeClasses d rc rs 5 [some (.ref r0), some (.int l1), none, none] [] h P := by
  refine sw_iload_n dX2_freeClasses_5 rfl ?_
  refine sw_bipush (v := 10) dX2_freeClasses_6 (by decide) ?_
  exact sw_icmp_le dX2_freeClasses_8 (by decide) (fun q => (kt q)) (fun q => (sw_fg [true, true, false, false] rfl (kf q)))
theorem b_X2_freeClasses_11  (hP : P (.inl (some (.int 0))) h) : SW sc m_X2_freeClasses d rc rs 11 [none, none, none, none] [] h P := by
  refine sw_iconst (v := 0) dX2_freeClasses_11 (by decide) ?_
  exact sw_ret (v := (some (.int 0))) dX2_freeClasses_12 rt_i hP
theorem b_X2_freeClasses_13 {r0 : Nat} {l1 : Int32} {g2 : ab_H} {fs2 : List Value} (hr2 : (h)[r0]? = some (2, fs2)) (hm2 : MSE m_X2_countRooted d [.ref r0] h none g2) (hz5 : ¬ (2 : Int32) = 0) (kt : ¬ (l1 - l1 / 2 * 2) = 0 → SW sc m_X2_freeClasses (d + 1) rc rs 35 [some (.ref r0), some (.int l1), none, none] [] g2 P) (kf : (l1 - l1 / 2 * 2) = 0 → SW sc m_X2_freeClasses (d + 1) rc rs 23 [some (.ref r0), some (.int l1), none, none] [] g2 P) : SW sc m_X2_freeClasses (d + 1) rc rs 13 [some (.ref r0), some (.int l1), none, none] [] h P := by
  refine sw_aload_n dX2_freeClasses_13 rfl ?_
  refine sw_cV dX2_freeClasses_14 lv_X2_31 hm2 hr2 rfl (by decide) rfl rfl rfl (Nat.le_of_ble_eq_true rfl) (fun _ _ => rfl) rfl ?_
  show SW sc m_X2_freeClasses _ _ _ 17 [some (.ref r0), some (.int l1), none, none] [] g2 P
  refine sw_iload_n dX2_freeClasses_17 rfl ?_
  refine sw_iconst (v := 2) dX2_freeClasses_18 (by decide) ?_
  refine sw_irem dX2_freeClasses_19 hz5 ?_
  exact sw_if_ne dX2_freeClasses_20 (by decide) (fun q => (kt q)) (fun q => (kf q))
theorem b_X2_freeClasses_23 {r0 : Nat} {l1 : Int32} {fs2 : List Value} {a2 : Nat} {vs6 : List Value} {x6 : Int32} (hc2 : (h)[r0]? = some (2, fs2)) (hv2 : fs2[1]? = some (.ref a2)) (hz5 : ¬ (2 : Int32) = 0) (hc6 : (h)[a2]? = some (100, vs6)) (ho6 : ¬ (l1 / 2) < 0) (hi6 : vs6[(l1 / 2).toNatClampNeg]? = some (.int x6)) (k : SW sc m_X2_freeClasses d rc rs 36 [some (.ref r0), some (.int l1), none, none] [.int (-x6)] h P) : SW sc m_X2_freeClasses d rc rs 23 [some (.ref r0), some (.int l1), none, none] [] h P := by
  refine sw_aload_n dX2_freeClasses_23 rfl ?_
  refine sw_getf dX2_freeClasses_24 lf_X2_15 hc2 hv2 ?_
  refine sw_iload_n dX2_freeClasses_27 rfl ?_
  refine sw_iconst (v := 2) dX2_freeClasses_28 (by decide) ?_
  refine sw_idiv dX2_freeClasses_29 hz5 ?_
  refine sw_iald dX2_freeClasses_30 hc6 ho6 hi6 ?_
  refine sw_ineg dX2_freeClasses_31 ?_
  exact sw_goto dX2_freeClasses_32 (by decide) (k)
theorem b_X2_freeClasses_35 {r0 : Nat} {l1 : Int32} (k : SW sc m_X2_freeClasses d rc rs 36 [some (.ref r0), some (.int l1), none, none] [.int 0] h P) : SW sc m_X2_freeClasses d rc rs 35 [some (.ref r0), some (.int l1), none, none] [] h P := by
  refine sw_iconst (v := 0) dX2_freeClasses_35 (by decide) ?_
  exact (k)
theorem b_X2_freeClasses_36 {r0 : Nat} {l1 : Int32} {s0 : Int32} (k : SW sc m_X2_freeClasses d rc rs 39 [some (.ref r0), some (.int l1), some (.int s0), some (.int 1)] [] h P) : SW sc m_X2_freeClasses d rc rs 36 [some (.ref r0), some (.int l1), none, none] [.int s0] h P := by
  refine sw_istore_n dX2_freeClasses_36 (by decide) rfl ?_
  show SW sc m_X2_freeClasses _ _ _ 37 [some (.ref r0), some (.int l1), some (.int s0), none] [] h P
  refine sw_iconst (v := 1) dX2_freeClasses_37 (by decide) ?_
  refine sw_istore_n dX2_freeClasses_38 (by decide) rfl ?_
  show SW sc m_X2_freeClasses _ _ _ 39 [some (.ref r0), some (.int l1), some (.int s0), some (.int 1)] [] h P
  exact (k)
theorem b_X2_freeClasses_39 {r0 : Nat} {l1 : Int32} {l2 : Int32} {l3 : Int32} (kt : l1 ≤ l3 → SW sc m_X2_freeClasses d rc rs 68 [some (.ref r0), some (.int l1), some (.int l2), none] [] h P) (kf : ¬ (l1 ≤ l3) → SW sc m_X2_freeClasses d rc rs 44 [some (.ref r0), some (.int l1), some (.int l2), some (.int l3)] [] h P) : SW sc m_X2_freeClasses d rc rs 39 [some (.ref r0), some (.int l1), some (.int l2), some (.int l3)] [] h P := by
  refine sw_iload_n dX2_freeClasses_39 rfl ?_
  refine sw_iload_n dX2_freeClasses_40 rfl ?_
  exact sw_icmp_ge dX2_freeClasses_41 (by decide) (fun q => (sw_fg [false, false, false, true] rfl (kt q))) (fun q => (kf q))
theorem b_X2_freeClasses_44 {r0 : Nat} {l1 : Int32} {l2 : Int32} {l3 : Int32} {fs3 : List Value} {a3 : Nat} {vs5 : List Value} {x5 : Int32} {fs7 : List Value} {a7 : Nat} {vs11 : List Value} {x11 : Int32} (hc3 : (h)[r0]? = some (2, fs3)) (hv3 : fs3[1]? = some (.ref a3)) (hc5 : (h)[a3]? = some (100, vs5)) (ho5 : ¬ l3 < 0) (hi5 : vs5[l3.toNatClampNeg]? = some (.int x5)) (hc7 : (h)[r0]? = some (2, fs7)) (hv7 : fs7[1]? = some (.ref a7)) (hc11 : (h)[a7]? = some (100, vs11)) (ho11 : ¬ (l1 - l3) < 0) (hi11 : vs11[(l1 - l3).toNatClampNeg]? = some (.int x11)) (k : SW sc m_X2_freeClasses d rc rs 39 [some (.ref r0), some (.int l1), some (.int (l2 + (x5 * x11))), some (.int (l3 + 1))] [] h P) : SW sc m_X2_freeClasses d rc rs 44 [some (.ref r0), some (.int l1), some (.int l2), some (.int l3)] [] h P := by
  refine sw_iload_n dX2_freeClasses_44 rfl ?_
  refine sw_aload_n dX2_freeClasses_45 rfl ?_
  refine sw_getf dX2_freeClasses_46 lf_X2_15 hc3 hv3 ?_
  refine sw_iload_n dX2_freeClasses_49 rfl ?_
  refine sw_iald dX2_freeClasses_50 hc5 ho5 hi5 ?_
  refine sw_aload_n dX2_freeClasses_51 rfl ?_
  refine sw_getf dX2_freeClasses_52 lf_X2_15 hc7 hv7 ?_
  refine sw_iload_n dX2_freeClasses_55 rfl ?_
  refine sw_iload_n dX2_freeClasses_56 rfl ?_
  refine sw_isub dX2_freeClasses_57 ?_
  refine sw_iald dX2_freeClasses_58 hc11 ho11 hi11 ?_
  refine sw_imul dX2_freeClasses_59 ?_
  refine sw_iadd dX2_freeClasses_60 ?_
  refine sw_istore_n dX2_freeClasses_61 (by decide) rfl ?_
  show SW sc m_X2_freeClasses _ _ _ 62 [some (.ref r0), some (.int l1), some (.int (l2 + (x5 * x11))), some (.int l3)] [] h P
  refine sw_iinc (v := l3 + 1) dX2_freeClasses_62 rfl rfl (by decide) rfl ?_
  show SW sc m_X2_freeClasses _ _ _ 65 [some (.ref r0), some (.int l1), some (.int (l2 + (x5 * x11))), some (.int (l3 + 1))] [] h P
  exact sw_goto dX2_freeClasses_65 (by decide) (k)
theorem b_X2_freeClasses_68 {r0 : Nat} {l1 : Int32} {l2 : Int32} {fs2 : List Value} {a2 : Nat} {vs4 : List Value} {x4 : Int32} (hc2 : (h)[r0]? = some (2, fs2)) (hv2 : fs2[1]? = some (.ref a2)) (hc4 : (h)[a2]? = some (100, vs4)) (ho4 : ¬ l1 < 0) (hi4 : vs4[l1.toNatClampNeg]? = some (.int x4)) (hz7 : ¬ (2 : Int32) = 0) (hP : P (.inl (some (.int (x4 - (l2 / 2))))) h) : SW sc m_X2_freeClasses d rc rs 68 [some (.ref r0), some (.int l1), some (.int l2), none] [] h P := by
  refine sw_aload_n dX2_freeClasses_68 rfl ?_
  refine sw_getf dX2_freeClasses_69 lf_X2_15 hc2 hv2 ?_
  refine sw_iload_n dX2_freeClasses_72 rfl ?_
  refine sw_iald dX2_freeClasses_73 hc4 ho4 hi4 ?_
  refine sw_iload_n dX2_freeClasses_74 rfl ?_
  refine sw_iconst (v := 2) dX2_freeClasses_75 (by decide) ?_
  refine sw_idiv dX2_freeClasses_76 hz7 ?_
  refine sw_isub dX2_freeClasses_77 ?_
  exact sw_ret (v := (some (.int (x4 - (l2 / 2))))) dX2_freeClasses_78 rt_i hP
theorem b_X3_clear_0 {r0 : Nat} {l1 : Int32} (kt : l1 < 1 → SW sc m_X3_clear d rc rs 16 [some (.ref r0), none] [] h P) (kf : ¬ (l1 < 1) → SW sc m_X3_clear d rc rs 5 [some (.ref r0), some (.int l1)] [] h P) : SW sc m_X3_clear d rc rs 0 [some (.ref r0), some (.int l1)] [] h P := by
  refine sw_iload_n dX3_clear_0 rfl ?_
  refine sw_iconst (v := 1) dX3_clear_1 (by decide) ?_
  exact sw_icmp_lt dX3_clear_2 (by decide) (fun q => (sw_fg [false, true] rfl (kt q))) (fun q => (kf q))
theorem b_X3_clear_5 {r0 : Nat} {l1 : Int32} (kt : 10 < l1 → SW sc m_X3_clear d rc rs 16 [some (.ref r0), none] [] h P) (kf : ¬ (10 < l1) → SW sc m_X3_clear d rc rs 11 [some (.ref r0), some (.int l1)] [] h P) : SW sc m_X3_clear d rc rs 5 [some (.ref r0), some (.int l1)] [] h P := by
  refine sw_iload_n dX3_clear_5 rfl ?_
  refine sw_bipush (v := 10) dX3_clear_6 (by decide) ?_
  exact sw_icmp_gt dX3_clear_8 (by decide) (fun q => (sw_fg [false, true] rfl (kt q))) (fun q => (kf q))
theorem b_X3_clear_11 {r0 : Nat} {l1 : Int32} {fs3 : List Value} (hc3 : (h)[r0]? = some (3, fs3)) (hk3 : 2 < fs3.length) (k : SW sc m_X3_clear d rc rs 16 [some (.ref r0), none] [] ((h).set r0 (3, fs3.set 2 (.int l1))) P) : SW sc m_X3_clear d rc rs 11 [some (.ref r0), some (.int l1)] [] h P := by
  refine sw_aload_n dX3_clear_11 rfl ?_
  refine sw_iload_n dX3_clear_12 rfl ?_
  refine sw_putf dX3_clear_13 lp_X3_18 hc3 hk3 (fun _ _ => ⟨rfl, rfl⟩) ?_
  exact (sw_fg [false, true] rfl (k))
theorem b_X3_clear_16 {r0 : Nat} {g2 : ab_H} {fs2 : List Value} {fs4 : List Value} {a4 : Nat} {g6 : ab_H} (hr2 : (h)[r0]? = some (3, fs2)) (hm2 : MSE m_X3_dropEdges d [.ref r0] h none g2) (hc4 : (g2)[r0]? = some (3, fs4)) (hv4 : fs4[1]? = some (.ref a4)) (hm6 : MSE m_J7_fill_53178 d [.ref a4, .int 1] g2 none g6) (hP : P (.inl none) g6) : SW sc m_X3_clear (d + 1) rc rs 16 [some (.ref r0), none] [] h P := by
  refine sw_aload_n dX3_clear_16 rfl ?_
  refine sw_cV dX3_clear_17 lv_X3_28 hm2 hr2 rfl (by decide) rfl rfl rfl (Nat.le_of_ble_eq_true rfl) (fun _ _ => rfl) rfl ?_
  show SW sc m_X3_clear _ _ _ 20 [some (.ref r0), none] [] g2 P
  refine sw_aload_n dX3_clear_20 rfl ?_
  refine sw_getf dX3_clear_21 lf_X3_15 hc4 hv4 ?_
  refine sw_iconst (v := 1) dX3_clear_24 (by decide) ?_
  refine sw_cS dX3_clear_25 ls_X3_22 hm6 rfl rfl (Nat.le_of_ble_eq_true rfl) (fun _ _ => rfl) rfl ?_
  show SW sc m_X3_clear _ _ _ 28 [some (.ref r0), none] [] g6 P
  exact sw_ret (v := none) dX3_clear_28 rt_v hP
theorem b_X3_dropEdges_0 {r0 : Nat} {fs2 : List Value} {a2 : Nat} {g4 : ab_H} (hc2 : (h)[r0]? = some (3, fs2)) (hv2 : fs2[0]? = some (.ref a2)) (hm4 : MSE m_J7_fill_53178 d [.ref a2, .int 0] h none g4) (hP : P (.inl none) g4) : SW sc m_X3_dropEdges (d + 1) rc rs 0 [some (.ref r0)] [] h P := by
  refine sw_aload_n dX3_dropEdges_0 rfl ?_
  refine sw_getf dX3_dropEdges_1 lf_X3_9 hc2 hv2 ?_
  refine sw_iconst (v := 0) dX3_dropEdges_4 (by decide) ?_
  refine sw_cS dX3_dropEdges_5 ls_X3_22 hm4 rfl rfl (Nat.le_of_ble_eq_true rfl) (fun _ _ => rfl) rfl ?_
  show SW sc m_X3_dropEdges _ _ _ 8 [some (.ref r0)] [] g4 P
  exact sw_ret (v := none) dX3_dropEdges_8 rt_v hP
theorem b_X3_copy_0 {r0 : Nat} {r1 : Nat} {fs3 : List Value} {x3 : Int32} {fs4 : List Value} {fs6 : List Value} {a6 : Nat} {fs9 : List Value} {a9 : Nat} {vf12 vg12 : List Value} {fs14 : List Value} {a14 : Nat} {fs17 : List Value} {a17 : Nat} {vf20 vg20 : List Value} (hc3 : (h)[r1]? = some (3, fs3)) (hv3 : fs3[2]? = some (.int x3)) (hc4 : (h)[r0]? = some (3, fs4)) (hk4 : 2 < fs4.length) (hc6 : ((h).set r0 (3, fs4.set 2 (.int x3)))[r1]? = some (3, fs6)) (hv6 : fs6[0]? = some (.ref a6)) (hc9 : ((h).set r0 (3, fs4.set 2 (.int x3)))[r0]? = some (3, fs9)) (hv9 : fs9[0]? = some (.ref a9)) (ha12 : ((h).set r0 (3, fs4.set 2 (.int x3)))[a6]? = some (100, vf12)) (hb12 : ((h).set r0 (3, fs4.set 2 (.int x3)))[a9]? = some (100, vg12)) (hf12 : ∀ v ∈ vf12, ∃ x, v = .int x) (hg12 : ∀ v ∈ vg12, ∃ x, v = .int x) (h412 : (0 : Int32).toNatClampNeg + (10 : Int32).toNatClampNeg ≤ vf12.length) (h512 : (0 : Int32).toNatClampNeg + (10 : Int32).toNatClampNeg ≤ vg12.length) (hc14 : (((h).set r0 (3, fs4.set 2 (.int x3))).set a9 (100, ab_cpyL vf12 vg12 (0 : Int32).toNatClampNeg (0 : Int32).toNatClampNeg (10 : Int32).toNatClampNeg))[r1]? = some (3, fs14)) (hv14 : fs14[1]? = some (.ref a14)) (hc17 : (((h).set r0 (3, fs4.set 2 (.int x3))).set a9 (100, ab_cpyL vf12 vg12 (0 : Int32).toNatClampNeg (0 : Int32).toNatClampNeg (10 : Int32).toNatClampNeg))[r0]? = some (3, fs17)) (hv17 : fs17[1]? = some (.ref a17)) (ha20 : (((h).set r0 (3, fs4.set 2 (.int x3))).set a9 (100, ab_cpyL vf12 vg12 (0 : Int32).toNatClampNeg (0 : Int32).toNatClampNeg (10 : Int32).toNatClampNeg))[a14]? = some (100, vf20)) (hb20 : (((h).set r0 (3, fs4.set 2 (.int x3))).set a9 (100, ab_cpyL vf12 vg12 (0 : Int32).toNatClampNeg (0 : Int32).toNatClampNeg (10 : Int32).toNatClampNeg))[a17]? = some (100, vg20)) (hf20 : ∀ v ∈ vf20, ∃ x, v = .int x) (hg20 : ∀ v ∈ vg20, ∃ x, v = .int x) (h420 : (0 : Int32).toNatClampNeg + (10 : Int32).toNatClampNeg ≤ vf20.length) (h520 : (0 : Int32).toNatClampNeg + (10 : Int32).toNatClampNeg ≤ vg20.length) (hP : P (.inl none) ((((h).set r0 (3, fs4.set 2 (.int x3))).set a9 (100, ab_cpyL vf12 vg12 (0 : Int32).toNatClampNeg (0 : Int32).toNatClampNeg (10 : Int32).toNatClampNeg)).set a17 (100, ab_cpyL vf20 vg20 (0 : Int32).toNatClampNeg (0 : Int32).toNatClampNeg (10 : Int32).toNatClampNeg))) : SW sc m_X3_copy d rc rs 0 [some (.ref r0), some (.ref r1)] [] h P := by
  refine sw_aload_n dX3_copy_0 rfl ?_
  refine sw_aload_n dX3_copy_1 rfl ?_
  refine sw_getf dX3_copy_2 lf_X3_18 hc3 hv3 ?_
  refine sw_putf dX3_copy_5 lp_X3_18 hc4 hk4 (fun _ _ => ⟨rfl, rfl⟩) ?_
  refine sw_aload_n dX3_copy_8 rfl ?_
  refine sw_getf dX3_copy_9 lf_X3_9 hc6 hv6 ?_
  refine sw_iconst (v := 0) dX3_copy_12 (by decide) ?_
  refine sw_aload_n dX3_copy_13 rfl ?_
  refine sw_getf dX3_copy_14 lf_X3_9 hc9 hv9 ?_
  refine sw_iconst (v := 0) dX3_copy_17 (by decide) ?_
  refine sw_bipush (v := 10) dX3_copy_18 (by decide) ?_
  refine sw_copy dX3_copy_20 la_X3_31 ha12 hb12 hf12 hg12 (by decide) (by decide) (by decide) h412 h512 (Nat.le_of_ble_eq_true rfl) (fun _ _ => rfl) ?_
  refine sw_aload_n dX3_copy_23 rfl ?_
  refine sw_getf dX3_copy_24 lf_X3_15 hc14 hv14 ?_
  refine sw_iconst (v := 0) dX3_copy_27 (by decide) ?_
  refine sw_aload_n dX3_copy_28 rfl ?_
  refine sw_getf dX3_copy_29 lf_X3_15 hc17 hv17 ?_
  refine sw_iconst (v := 0) dX3_copy_32 (by decide) ?_
  refine sw_bipush (v := 10) dX3_copy_33 (by decide) ?_
  refine sw_copy dX3_copy_35 la_X3_31 ha20 hb20 hf20 hg20 (by decide) (by decide) (by decide) h420 h520 (Nat.le_of_ble_eq_true rfl) (fun _ _ => rfl) ?_
  exact sw_ret (v := none) dX3_copy_38 rt_v hP
theorem b_X3_saveTo_0 {r0 : Nat} {r1 : Nat} {vs2 : List Value} (hc2 : (h)[r1]? = some (100, vs2)) (kt : ¬ (Int32.ofNat vs2.length) = 20 → SW sc m_X3_saveTo d rc rs 32 [none, none] [] h P) (kf : (Int32.ofNat vs2.length) = 20 → SW sc m_X3_saveTo d rc rs 7 [some (.ref r0), some (.ref r1)] [] h P) : SW sc m_X3_saveTo d rc rs 0 [some (.ref r0), some (.ref r1)] [] h P := by
  refine sw_aload_n dX3_saveTo_0 rfl ?_
  refine sw_alen dX3_saveTo_1 hc2 ?_
  refine sw_bipush (v := 20) dX3_saveTo_2 (by decide) ?_
  exact sw_icmp_ne dX3_saveTo_4 (by decide) (fun q => (sw_fg [true, true] rfl (kt q))) (fun q => (kf q))
theorem b_X3_saveTo_7 {r0 : Nat} {r1 : Nat} {fs2 : List Value} {a2 : Nat} {vf7 vg7 : List Value} {fs9 : List Value} {a9 : Nat} {vf14 vg14 : List Value} (hc2 : (h)[r0]? = some (3, fs2)) (hv2 : fs2[0]? = some (.ref a2)) (ha7 : (h)[a2]? = some (100, vf7)) (hb7 : (h)[r1]? = some (100, vg7)) (hf7 : ∀ v ∈ vf7, ∃ x, v = .int x) (hg7 : ∀ v ∈ vg7, ∃ x, v = .int x) (h47 : (0 : Int32).toNatClampNeg + (10 : Int32).toNatClampNeg ≤ vf7.length) (h57 : (0 : Int32).toNatClampNeg + (10 : Int32).toNatClampNeg ≤ vg7.length) (hc9 : ((h).set r1 (100, ab_cpyL vf7 vg7 (0 : Int32).toNatClampNeg (0 : Int32).toNatClampNeg (10 : Int32).toNatClampNeg))[r0]? = some (3, fs9)) (hv9 : fs9[1]? = some (.ref a9)) (ha14 : ((h).set r1 (100, ab_cpyL vf7 vg7 (0 : Int32).toNatClampNeg (0 : Int32).toNatClampNeg (10 : Int32).toNatClampNeg))[a9]? = some (100, vf14)) (hb14 : ((h).set r1 (100, ab_cpyL vf7 vg7 (0 : Int32).toNatClampNeg (0 : Int32).toNatClampNeg (10 : Int32).toNatClampNeg))[r1]? = some (100, vg14)) (hf14 : ∀ v ∈ vf14, ∃ x, v = .int x) (hg14 : ∀ v ∈ vg14, ∃ x, v = .int x) (h414 : (0 : Int32).toNatClampNeg + (10 : Int32).toNatClampNeg ≤ vf14.length) (h514 : (10 : Int32).toNatClampNeg + (10 : Int32).toNatClampNeg ≤ vg14.length) (k : SW sc m_X3_saveTo d rc rs 32 [none, none] [] (((h).set r1 (100, ab_cpyL vf7 vg7 (0 : Int32).toNatClampNeg (0 : Int32).toNatClampNeg (10 : Int32).toNatClampNeg)).set r1 (100, ab_cpyL vf14 vg14 (0 : Int32).toNatClampNeg (10 : Int32).toNatClampNeg (10 : Int32).toNatClampNeg)) P) : SW sc m_X3_saveTo d rc rs 7 [some (.ref r0), some (.ref r1)] [] h P := by
  refine sw_aload_n dX3_saveTo_7 rfl ?_
  refine sw_getf dX3_saveTo_8 lf_X3_9 hc2 hv2 ?_
  refine sw_iconst (v := 0) dX3_saveTo_11 (by decide) ?_
  refine sw_aload_n dX3_saveTo_12 rfl ?_
  refine sw_iconst (v := 0) dX3_saveTo_13 (by decide) ?_
  refine sw_bipush (v := 10) dX3_saveTo_14 (by decide) ?_
  refine sw_copy dX3_saveTo_16 la_X3_31 ha7 hb7 hf7 hg7 (by decide) (by decide) (by decide) h47 h57 (Nat.le_of_ble_eq_true rfl) (fun _ _ => rfl) ?_
  refine sw_aload_n dX3_saveTo_19 rfl ?_
  refine sw_getf dX3_saveTo_20 lf_X3_15 hc9 hv9 ?_
  refine sw_iconst (v := 0) dX3_saveTo_23 (by decide) ?_
  refine sw_aload_n dX3_saveTo_24 rfl ?_
  refine sw_bipush (v := 10) dX3_saveTo_25 (by decide) ?_
  refine sw_bipush (v := 10) dX3_saveTo_27 (by decide) ?_
  refine sw_copy dX3_saveTo_29 la_X3_31 ha14 hb14 hf14 hg14 (by decide) (by decide) (by decide) h414 h514 (Nat.le_of_ble_eq_true rfl) (fun _ _ => rfl) ?_
  exact (sw_fg [true, true] rfl (k))
theorem b_X3_saveTo_32  (hP : P (.inl none) h) : SW sc m_X3_saveTo d rc rs 32 [none, none] [] h P := by
  exact sw_ret (v := none) dX3_saveTo_32 rt_v hP
theorem b_X3_bringFrom_0 {r0 : Nat} {r1 : Nat} {vs2 : List Value} (hc2 : (h)[r1]? = some (100, vs2)) (kt : ¬ (Int32.ofNat vs2.length) = 20 → SW sc m_X3_bringFrom d rc rs 32 [none, none] [] h P) (kf : (Int32.ofNat vs2.length) = 20 → SW sc m_X3_bringFrom d rc rs 7 [some (.ref r0), some (.ref r1)] [] h P) : SW sc m_X3_bringFrom d rc rs 0 [some (.ref r0), some (.ref r1)] [] h P := by
  refine sw_aload_n dX3_bringFrom_0 rfl ?_
  refine sw_alen dX3_bringFrom_1 hc2 ?_
  refine sw_bipush (v := 20) dX3_bringFrom_2 (by decide) ?_
  exact sw_icmp_ne dX3_bringFrom_4 (by decide) (fun q => (sw_fg [true, true] rfl (kt q))) (fun q => (kf q))
theorem b_X3_bringFrom_7 {r0 : Nat} {r1 : Nat} {fs4 : List Value} {a4 : Nat} {vf7 vg7 : List Value} {fs11 : List Value} {a11 : Nat} {vf14 vg14 : List Value} (hc4 : (h)[r0]? = some (3, fs4)) (hv4 : fs4[0]? = some (.ref a4)) (ha7 : (h)[r1]? = some (100, vf7)) (hb7 : (h)[a4]? = some (100, vg7)) (hf7 : ∀ v ∈ vf7, ∃ x, v = .int x) (hg7 : ∀ v ∈ vg7, ∃ x, v = .int x) (h47 : (0 : Int32).toNatClampNeg + (10 : Int32).toNatClampNeg ≤ vf7.length) (h57 : (0 : Int32).toNatClampNeg + (10 : Int32).toNatClampNeg ≤ vg7.length) (hc11 : ((h).set a4 (100, ab_cpyL vf7 vg7 (0 : Int32).toNatClampNeg (0 : Int32).toNatClampNeg (10 : Int32).toNatClampNeg))[r0]? = some (3, fs11)) (hv11 : fs11[1]? = some (.ref a11)) (ha14 : ((h).set a4 (100, ab_cpyL vf7 vg7 (0 : Int32).toNatClampNeg (0 : Int32).toNatClampNeg (10 : Int32).toNatClampNeg))[r1]? = some (100, vf14)) (hb14 : ((h).set a4 (100, ab_cpyL vf7 vg7 (0 : Int32).toNatClampNeg (0 : Int32).toNatClampNeg (10 : Int32).toNatClampNeg))[a11]? = some (100, vg14)) (hf14 : ∀ v ∈ vf14, ∃ x, v = .int x) (hg14 : ∀ v ∈ vg14, ∃ x, v = .int x) (h414 : (10 : Int32).toNatClampNeg + (10 : Int32).toNatClampNeg ≤ vf14.length) (h514 : (0 : Int32).toNatClampNeg + (10 : Int32).toNatClampNeg ≤ vg14.length) (k : SW sc m_X3_bringFrom d rc rs 32 [none, none] [] (((h).set a4 (100, ab_cpyL vf7 vg7 (0 : Int32).toNatClampNeg (0 : Int32).toNatClampNeg (10 : Int32).toNatClampNeg)).set a11 (100, ab_cpyL vf14 vg14 (10 : Int32).toNatClampNeg (0 : Int32).toNatClampNeg (10 : Int32).toNatClampNeg)) P) : SW sc m_X3_bringFrom d rc rs 7 [some (.ref r0), some (.ref r1)] [] h P := by
  refine sw_aload_n dX3_bringFrom_7 rfl ?_
  refine sw_iconst (v := 0) dX3_bringFrom_8 (by decide) ?_
  refine sw_aload_n dX3_bringFrom_9 rfl ?_
  refine sw_getf dX3_bringFrom_10 lf_X3_9 hc4 hv4 ?_
  refine sw_iconst (v := 0) dX3_bringFrom_13 (by decide) ?_
  refine sw_bipush (v := 10) dX3_bringFrom_14 (by decide) ?_
  refine sw_copy dX3_bringFrom_16 la_X3_31 ha7 hb7 hf7 hg7 (by decide) (by decide) (by decide) h47 h57 (Nat.le_of_ble_eq_true rfl) (fun _ _ => rfl) ?_
  refine sw_aload_n dX3_bringFrom_19 rfl ?_
  refine sw_bipush (v := 10) dX3_bringFrom_20 (by decide) ?_
  refine sw_aload_n dX3_bringFrom_22 rfl ?_
  refine sw_getf dX3_bringFrom_23 lf_X3_15 hc11 hv11 ?_
  refine sw_iconst (v := 0) dX3_bringFrom_26 (by decide) ?_
  refine sw_bipush (v := 10) dX3_bringFrom_27 (by decide) ?_
  refine sw_copy dX3_bringFrom_29 la_X3_31 ha14 hb14 hf14 hg14 (by decide) (by decide) (by decide) h414 h514 (Nat.le_of_ble_eq_true rfl) (fun _ _ => rfl) ?_
  exact (sw_fg [true, true] rfl (k))
theorem b_X3_bringFrom_32  (hP : P (.inl none) h) : SW sc m_X3_bringFrom d rc rs 32 [none, none] [] h P := by
  exact sw_ret (v := none) dX3_bringFrom_32 rt_v hP
theorem b_X3_edgesNotIn_0 {r0 : Nat} {r1 : Nat} (k : SW sc m_X3_edgesNotIn d rc rs 4 [some (.ref r0), some (.ref r1), some (.int 0), some (.int 0)] [] h P) : SW sc m_X3_edgesNotIn d rc rs 0 [some (.ref r0), some (.ref r1), none, none] [] h P := by
  refine sw_iconst (v := 0) dX3_edgesNotIn_0 (by decide) ?_
  refine sw_istore_n dX3_edgesNotIn_1 (by decide) rfl ?_
  show SW sc m_X3_edgesNotIn _ _ _ 2 [some (.ref r0), some (.ref r1), some (.int 0), none] [] h P
  refine sw_iconst (v := 0) dX3_edgesNotIn_2 (by decide) ?_
  refine sw_istore_n dX3_edgesNotIn_3 (by decide) rfl ?_
  show SW sc m_X3_edgesNotIn _ _ _ 4 [some (.ref r0), some (.ref r1), some (.int 0), some (.int 0)] [] h P
  exact (k)
theorem b_X3_edgesNotIn_4 {r0 : Nat} {r1 : Nat} {l2 : Int32} {l3 : Int32} {fs3 : List Value} {x3 : Int32} (hc3 : (h)[r0]? = some (3, fs3)) (hv3 : fs3[2]? = some (.int x3)) (kt : x3 ≤ l3 → SW sc m_X3_edgesNotIn d rc rs 42 [none, none, some (.int l2), none] [] h P) (kf : ¬ (x3 ≤ l3) → SW sc m_X3_edgesNotIn d rc rs 12 [some (.ref r0), some (.ref r1), some (.int l2), some (.int l3)] [] h P) : SW sc m_X3_edgesNotIn d rc rs 4 [some (.ref r0), some (.ref r1), some (.int l2), some (.int l3)] [] h P := by
  refine sw_iload_n dX3_edgesNotIn_4 rfl ?_
  refine sw_aload_n dX3_edgesNotIn_5 rfl ?_
  refine sw_getf dX3_edgesNotIn_6 lf_X3_18 hc3 hv3 ?_
  exact sw_icmp_ge dX3_edgesNotIn_9 (by decide) (fun q => (sw_fg [true, true, false, true] rfl (kt q))) (fun q => (kf q))
theorem b_X3_edgesNotIn_12 {r0 : Nat} {r1 : Nat} {l2 : Int32} {l3 : Int32} {vs3 : List Value} (hc3 : (h)[r1]? = some (100, vs3)) (kt : (Int32.ofNat vs3.length) ≤ l3 → SW sc m_X3_edgesNotIn d rc rs 42 [none, none, some (.int l2), none] [] h P) (kf : ¬ ((Int32.ofNat vs3.length) ≤ l3) → SW sc m_X3_edgesNotIn d rc rs 18 [some (.ref r0), some (.ref r1), some (.int l2), some (.int l3)] [] h P) : SW sc m_X3_edgesNotIn d rc rs 12 [some (.ref r0), some (.ref r1), some (.int l2), some (.int l3)] [] h P := by
  refine sw_iload_n dX3_edgesNotIn_12 rfl ?_
  refine sw_aload_n dX3_edgesNotIn_13 rfl ?_
  refine sw_alen dX3_edgesNotIn_14 hc3 ?_
  exact sw_icmp_ge dX3_edgesNotIn_15 (by decide) (fun q => (sw_fg [true, true, false, true] rfl (kt q))) (fun q => (kf q))
theorem b_X3_edgesNotIn_18 {r0 : Nat} {r1 : Nat} {l2 : Int32} {l3 : Int32} {fs3 : List Value} {a3 : Nat} {vs5 : List Value} {x5 : Int32} {vs8 : List Value} {x8 : Int32} {v12 : Int32} {g12 : ab_H} (hc3 : (h)[r0]? = some (3, fs3)) (hv3 : fs3[0]? = some (.ref a3)) (hc5 : (h)[a3]? = some (100, vs5)) (ho5 : ¬ l3 < 0) (hi5 : vs5[l3.toNatClampNeg]? = some (.int x5)) (hc8 : (h)[r1]? = some (100, vs8)) (ho8 : ¬ l3 < 0) (hi8 : vs8[l3.toNatClampNeg]? = some (.int x8)) (hm12 : MSE m_J6_bitCount_0f7a4 d [.int (x5 &&& (x8 ^^^ (-1)))] h (some (.int v12)) g12) (k : SW sc m_X3_edgesNotIn (d + 1) rc rs 4 [some (.ref r0), some (.ref r1), some (.int (l2 + v12)), some (.int (l3 + 1))] [] g12 P) : SW sc m_X3_edgesNotIn (d + 1) rc rs 18 [some (.ref r0), some (.ref r1), some (.int l2), some (.int l3)] [] h P := by
  refine sw_iload_n dX3_edgesNotIn_18 rfl ?_
  refine sw_aload_n dX3_edgesNotIn_19 rfl ?_
  refine sw_getf dX3_edgesNotIn_20 lf_X3_9 hc3 hv3 ?_
  refine sw_iload_n dX3_edgesNotIn_23 rfl ?_
  refine sw_iald dX3_edgesNotIn_24 hc5 ho5 hi5 ?_
  refine sw_aload_n dX3_edgesNotIn_25 rfl ?_
  refine sw_iload_n dX3_edgesNotIn_26 rfl ?_
  refine sw_iald dX3_edgesNotIn_27 hc8 ho8 hi8 ?_
  refine sw_iconst (v := (-1)) dX3_edgesNotIn_28 (by decide) ?_
  refine sw_ixor dX3_edgesNotIn_29 ?_
  refine sw_iand dX3_edgesNotIn_30 ?_
  refine sw_cS dX3_edgesNotIn_31 ls_X3_37 hm12 rfl rfl (Nat.le_of_ble_eq_true rfl) (fun _ _ => rfl) rfl ?_
  show SW sc m_X3_edgesNotIn _ _ _ 34 [some (.ref r0), some (.ref r1), some (.int l2), some (.int l3)] [.int v12, .int l2] g12 P
  refine sw_iadd dX3_edgesNotIn_34 ?_
  refine sw_istore_n dX3_edgesNotIn_35 (by decide) rfl ?_
  show SW sc m_X3_edgesNotIn _ _ _ 36 [some (.ref r0), some (.ref r1), some (.int (l2 + v12)), some (.int l3)] [] g12 P
  refine sw_iinc (v := l3 + 1) dX3_edgesNotIn_36 rfl rfl (by decide) rfl ?_
  show SW sc m_X3_edgesNotIn _ _ _ 39 [some (.ref r0), some (.ref r1), some (.int (l2 + v12)), some (.int (l3 + 1))] [] g12 P
  exact sw_goto dX3_edgesNotIn_39 (by decide) (k)
theorem b_X3_edgesNotIn_42 {l2 : Int32} (hz3 : ¬ (2 : Int32) = 0) (hP : P (.inl (some (.int (l2 / 2)))) h) : SW sc m_X3_edgesNotIn d rc rs 42 [none, none, some (.int l2), none] [] h P := by
  refine sw_iload_n dX3_edgesNotIn_42 rfl ?_
  refine sw_iconst (v := 2) dX3_edgesNotIn_43 (by decide) ?_
  refine sw_idiv dX3_edgesNotIn_44 hz3 ?_
  exact sw_ret (v := (some (.int (l2 / 2)))) dX3_edgesNotIn_45 rt_i hP
theorem b_X3_isVertex_0 {r0 : Nat} {l1 : Int32} (kt : l1 < 0 → SW sc m_X3_isVertex d rc rs 16 [none, none] [] h P) (kf : ¬ (l1 < 0) → SW sc m_X3_isVertex d rc rs 4 [some (.ref r0), some (.int l1)] [] h P) : SW sc m_X3_isVertex d rc rs 0 [some (.ref r0), some (.int l1)] [] h P := by
  refine sw_iload_n dX3_isVertex_0 rfl ?_
  exact sw_if_lt dX3_isVertex_1 (by decide) (fun q => (sw_fg [true, true] rfl (kt q))) (fun q => (kf q))
theorem b_X3_isVertex_4 {r0 : Nat} {l1 : Int32} {fs3 : List Value} {x3 : Int32} (hc3 : (h)[r0]? = some (3, fs3)) (hv3 : fs3[2]? = some (.int x3)) (kt : x3 ≤ l1 → SW sc m_X3_isVertex d rc rs 16 [none, none] [] h P) (kf : ¬ (x3 ≤ l1) → SW sc m_X3_isVertex d rc rs 12 [none, none] [] h P) : SW sc m_X3_isVertex d rc rs 4 [some (.ref r0), some (.int l1)] [] h P := by
  refine sw_iload_n dX3_isVertex_4 rfl ?_
  refine sw_aload_n dX3_isVertex_5 rfl ?_
  refine sw_getf dX3_isVertex_6 lf_X3_18 hc3 hv3 ?_
  exact sw_icmp_ge dX3_isVertex_9 (by decide) (fun q => (sw_fg [true, true] rfl (kt q))) (fun q => (sw_fg [true, true] rfl (kf q)))
theorem b_X3_isVertex_12  (k : SW sc m_X3_isVertex d rc rs 17 [none, none] [.int 1] h P) : SW sc m_X3_isVertex d rc rs 12 [none, none] [] h P := by
  refine sw_iconst (v := 1) dX3_isVertex_12 (by decide) ?_
  exact sw_goto dX3_isVertex_13 (by decide) (k)
theorem b_X3_isVertex_16  (k : SW sc m_X3_isVertex d rc rs 17 [none, none] [.int 0] h P) : SW sc m_X3_isVertex d rc rs 16 [none, none] [] h P := by
  refine sw_iconst (v := 0) dX3_isVertex_16 (by decide) ?_
  exact (k)
theorem b_X3_isVertex_17 {s0 : Int32} (hz1 : narrow .boolean (.int s0) = .int s0) (hP : P (.inl (some (.int s0))) h) : SW sc m_X3_isVertex d rc rs 17 [none, none] [.int s0] h P := by
  exact sw_ret (v := (some (.int s0))) dX3_isVertex_17 (rt_n hz1) hP
theorem b_X3_all_0 {r0 : Nat} {fs3 : List Value} {x3 : Int32} (hc3 : (h)[r0]? = some (3, fs3)) (hv3 : fs3[2]? = some (.int x3)) (hP : P (.inl (some (.int ((1 <<< (x3 &&& 31)) - 1)))) h) : SW sc m_X3_all d rc rs 0 [some (.ref r0)] [] h P := by
  refine sw_iconst (v := 1) dX3_all_0 (by decide) ?_
  refine sw_aload_n dX3_all_1 rfl ?_
  refine sw_getf dX3_all_2 lf_X3_18 hc3 hv3 ?_
  refine sw_ishl dX3_all_5 ?_
  refine sw_iconst (v := 1) dX3_all_6 (by decide) ?_
  refine sw_isub dX3_all_7 ?_
  exact sw_ret (v := (some (.int ((1 <<< (x3 &&& 31)) - 1)))) dX3_all_8 rt_i hP
theorem b_X3_nearOf_0 {r0 : Nat} {l1 : Int32} (kt : l1 < 0 → SW sc m_X3_nearOf d rc rs 19 [none, none] [] h P) (kf : ¬ (l1 < 0) → SW sc m_X3_nearOf d rc rs 4 [some (.ref r0), some (.int l1)] [] h P) : SW sc m_X3_nearOf d rc rs 0 [some (.ref r0), some (.int l1)] [] h P := by
  refine sw_iload_n dX3_nearOf_0 rfl ?_
  exact sw_if_lt dX3_nearOf_1 (by decide) (fun q => (sw_fg [true, true] rfl (kt q))) (fun q => (kf q))
theorem b_X3_nearOf_4 {r0 : Nat} {l1 : Int32} (kt : 10 ≤ l1 → SW sc m_X3_nearOf d rc rs 19 [none, none] [] h P) (kf : ¬ (10 ≤ l1) → SW sc m_X3_nearOf d rc rs 10 [some (.ref r0), some (.int l1)] [] h P) : SW sc m_X3_nearOf d rc rs 4 [some (.ref r0), some (.int l1)] [] h P := by
  refine sw_iload_n dX3_nearOf_4 rfl ?_
  refine sw_bipush (v := 10) dX3_nearOf_5 (by decide) ?_
  exact sw_icmp_ge dX3_nearOf_7 (by decide) (fun q => (sw_fg [true, true] rfl (kt q))) (fun q => (kf q))
theorem b_X3_nearOf_10 {r0 : Nat} {l1 : Int32} {fs2 : List Value} {a2 : Nat} {vs4 : List Value} {x4 : Int32} (hc2 : (h)[r0]? = some (3, fs2)) (hv2 : fs2[0]? = some (.ref a2)) (hc4 : (h)[a2]? = some (100, vs4)) (ho4 : ¬ l1 < 0) (hi4 : vs4[l1.toNatClampNeg]? = some (.int x4)) (k : SW sc m_X3_nearOf d rc rs 20 [none, none] [.int x4] h P) : SW sc m_X3_nearOf d rc rs 10 [some (.ref r0), some (.int l1)] [] h P := by
  refine sw_aload_n dX3_nearOf_10 rfl ?_
  refine sw_getf dX3_nearOf_11 lf_X3_9 hc2 hv2 ?_
  refine sw_iload_n dX3_nearOf_14 rfl ?_
  refine sw_iald dX3_nearOf_15 hc4 ho4 hi4 ?_
  exact sw_goto dX3_nearOf_16 (by decide) (sw_fg [true, true] rfl (k))
theorem b_X3_nearOf_19  (k : SW sc m_X3_nearOf d rc rs 20 [none, none] [.int 0] h P) : SW sc m_X3_nearOf d rc rs 19 [none, none] [] h P := by
  refine sw_iconst (v := 0) dX3_nearOf_19 (by decide) ?_
  exact (k)
theorem b_X3_nearOf_20 {s0 : Int32} (hP : P (.inl (some (.int s0))) h) : SW sc m_X3_nearOf d rc rs 20 [none, none] [.int s0] h P := by
  exact sw_ret (v := (some (.int s0))) dX3_nearOf_20 rt_i hP
theorem b_X3_degree_0 {r0 : Nat} {l1 : Int32} {v3 : Int32} {g3 : ab_H} {fs3 : List Value} {v4 : Int32} {g4 : ab_H} (hr3 : (h)[r0]? = some (3, fs3)) (hm3 : MSE m_X3_nearOf d [.ref r0, .int l1] h (some (.int v3)) g3) (hm4 : MSE m_J6_bitCount_0f7a4 d [.int v3] g3 (some (.int v4)) g4) (hP : P (.inl (some (.int v4))) g4) : SW sc m_X3_degree (d + 1) rc rs 0 [some (.ref r0), some (.int l1)] [] h P := by
  refine sw_aload_n dX3_degree_0 rfl ?_
  refine sw_iload_n dX3_degree_1 rfl ?_
  refine sw_cV dX3_degree_2 lv_X3_43 hm3 hr3 rfl (by decide) rfl rfl rfl (Nat.le_of_ble_eq_true rfl) (fun _ _ => rfl) rfl ?_
  show SW sc m_X3_degree _ _ _ 5 [some (.ref r0), some (.int l1)] [.int v3] g3 P
  refine sw_cS dX3_degree_5 ls_X3_37 hm4 rfl rfl (Nat.le_of_ble_eq_true rfl) (fun _ _ => rfl) rfl ?_
  show SW sc m_X3_degree _ _ _ 8 [some (.ref r0), some (.int l1)] [.int v4] g4 P
  exact sw_ret (v := (some (.int v4))) dX3_degree_8 rt_i hP
theorem b_X3_hasEdge_0 {r0 : Nat} {l1 : Int32} {l2 : Int32} {v3 : Int32} {g3 : ab_H} {fs3 : List Value} (hr3 : (h)[r0]? = some (3, fs3)) (hm3 : MSE m_X3_isVertex d [.ref r0, .int l2] h (some (.int v3)) g3) (kt : v3 = 0 → SW sc m_X3_hasEdge (d + 1) rc rs 24 [none, none, none] [] g3 P) (kf : ¬ (v3 = 0) → SW sc m_X3_hasEdge (d + 1) rc rs 8 [some (.ref r0), some (.int l1), some (.int l2)] [] g3 P) : SW sc m_X3_hasEdge (d + 1) rc rs 0 [some (.ref r0), some (.int l1), some (.int l2)] [] h P := by
  refine sw_aload_n dX3_hasEdge_0 rfl ?_
  refine sw_iload_n dX3_hasEdge_1 rfl ?_
  refine sw_cV dX3_hasEdge_2 lv_X3_46 hm3 hr3 rfl (by decide) rfl rfl rfl (Nat.le_of_ble_eq_true rfl) (fun _ _ => rfl) rfl ?_
  show SW sc m_X3_hasEdge _ _ _ 5 [some (.ref r0), some (.int l1), some (.int l2)] [.int v3] g3 P
  exact sw_if_eq dX3_hasEdge_5 (by decide) (fun q => (sw_fg [true, true, true] rfl (kt q))) (fun q => (kf q))
theorem b_X3_hasEdge_8 {r0 : Nat} {l1 : Int32} {l2 : Int32} {v3 : Int32} {g3 : ab_H} {fs3 : List Value} {v5 : Int32} {g5 : ab_H} (hr3 : (h)[r0]? = some (3, fs3)) (hm3 : MSE m_X3_nearOf d [.ref r0, .int l1] h (some (.int v3)) g3) (hm5 : MSE m_X9_holds d [.int v3, .int l2] g3 (some (.int v5)) g5) (kt : v5 = 0 → SW sc m_X3_hasEdge (d + 1) rc rs 24 [none, none, none] [] g5 P) (kf : ¬ (v5 = 0) → SW sc m_X3_hasEdge (d + 1) rc rs 20 [none, none, none] [] g5 P) : SW sc m_X3_hasEdge (d + 1) rc rs 8 [some (.ref r0), some (.int l1), some (.int l2)] [] h P := by
  refine sw_aload_n dX3_hasEdge_8 rfl ?_
  refine sw_iload_n dX3_hasEdge_9 rfl ?_
  refine sw_cV dX3_hasEdge_10 lv_X3_43 hm3 hr3 rfl (by decide) rfl rfl rfl (Nat.le_of_ble_eq_true rfl) (fun _ _ => rfl) rfl ?_
  show SW sc m_X3_hasEdge _ _ _ 13 [some (.ref r0), some (.int l1), some (.int l2)] [.int v3] g3 P
  refine sw_iload_n dX3_hasEdge_13 rfl ?_
  refine sw_cS dX3_hasEdge_14 ls_X3_50 hm5 rfl rfl (Nat.le_of_ble_eq_true rfl) (fun _ _ => rfl) rfl ?_
  show SW sc m_X3_hasEdge _ _ _ 17 [some (.ref r0), some (.int l1), some (.int l2)] [.int v5] g5 P
  exact sw_if_eq dX3_hasEdge_17 (by decide) (fun q => (sw_fg [true, true, true] rfl (kt q))) (fun q => (sw_fg [true, true, true] rfl (kf q)))
theorem b_X3_hasEdge_20  (k : SW sc m_X3_hasEdge d rc rs 25 [none, none, none] [.int 1] h P) : SW sc m_X3_hasEdge d rc rs 20 [none, none, none] [] h P := by
  refine sw_iconst (v := 1) dX3_hasEdge_20 (by decide) ?_
  exact sw_goto dX3_hasEdge_21 (by decide) (k)
theorem b_X3_hasEdge_24  (k : SW sc m_X3_hasEdge d rc rs 25 [none, none, none] [.int 0] h P) : SW sc m_X3_hasEdge d rc rs 24 [none, none, none] [] h P := by
  refine sw_iconst (v := 0) dX3_hasEdge_24 (by decide) ?_
  exact (k)
theorem b_X3_hasEdge_25 {s0 : Int32} (hz1 : narrow .boolean (.int s0) = .int s0) (hP : P (.inl (some (.int s0))) h) : SW sc m_X3_hasEdge d rc rs 25 [none, none, none] [.int s0] h P := by
  exact sw_ret (v := (some (.int s0))) dX3_hasEdge_25 (rt_n hz1) hP
theorem b_X3_join_0 {r0 : Nat} {l1 : Int32} {l2 : Int32} {v3 : Int32} {g3 : ab_H} {fs3 : List Value} (hr3 : (h)[r0]? = some (3, fs3)) (hm3 : MSE m_X3_isVertex d [.ref r0, .int l1] h (some (.int v3)) g3) (kt : v3 = 0 → SW sc m_X3_join (d + 1) rc rs 45 [none, none, none] [] g3 P) (kf : ¬ (v3 = 0) → SW sc m_X3_join (d + 1) rc rs 8 [some (.ref r0), some (.int l1), some (.int l2)] [] g3 P) : SW sc m_X3_join (d + 1) rc rs 0 [some (.ref r0), some (.int l1), some (.int l2)] [] h P := by
  refine sw_aload_n dX3_join_0 rfl ?_
  refine sw_iload_n dX3_join_1 rfl ?_
  refine sw_cV dX3_join_2 lv_X3_46 hm3 hr3 rfl (by decide) rfl rfl rfl (Nat.le_of_ble_eq_true rfl) (fun _ _ => rfl) rfl ?_
  show SW sc m_X3_join _ _ _ 5 [some (.ref r0), some (.int l1), some (.int l2)] [.int v3] g3 P
  exact sw_if_eq dX3_join_5 (by decide) (fun q => (sw_fg [true, true, true] rfl (kt q))) (fun q => (kf q))
theorem b_X3_join_8 {r0 : Nat} {l1 : Int32} {l2 : Int32} {v3 : Int32} {g3 : ab_H} {fs3 : List Value} (hr3 : (h)[r0]? = some (3, fs3)) (hm3 : MSE m_X3_isVertex d [.ref r0, .int l2] h (some (.int v3)) g3) (kt : v3 = 0 → SW sc m_X3_join (d + 1) rc rs 45 [none, none, none] [] g3 P) (kf : ¬ (v3 = 0) → SW sc m_X3_join (d + 1) rc rs 16 [some (.ref r0), some (.int l1), some (.int l2)] [] g3 P) : SW sc m_X3_join (d + 1) rc rs 8 [some (.ref r0), some (.int l1), some (.int l2)] [] h P := by
  refine sw_aload_n dX3_join_8 rfl ?_
  refine sw_iload_n dX3_join_9 rfl ?_
  refine sw_cV dX3_join_10 lv_X3_46 hm3 hr3 rfl (by decide) rfl rfl rfl (Nat.le_of_ble_eq_true rfl) (fun _ _ => rfl) rfl ?_
  show SW sc m_X3_join _ _ _ 13 [some (.ref r0), some (.int l1), some (.int l2)] [.int v3] g3 P
  exact sw_if_eq dX3_join_13 (by decide) (fun q => (sw_fg [true, true, true] rfl (kt q))) (fun q => (kf q))
theorem b_X3_join_16 {r0 : Nat} {l1 : Int32} {l2 : Int32} (kt : l1 = l2 → SW sc m_X3_join d rc rs 45 [none, none, none] [] h P) (kf : ¬ (l1 = l2) → SW sc m_X3_join d rc rs 21 [some (.ref r0), some (.int l1), some (.int l2)] [] h P) : SW sc m_X3_join d rc rs 16 [some (.ref r0), some (.int l1), some (.int l2)] [] h P := by
  refine sw_iload_n dX3_join_16 rfl ?_
  refine sw_iload_n dX3_join_17 rfl ?_
  exact sw_icmp_eq dX3_join_18 (by decide) (fun q => (sw_fg [true, true, true] rfl (kt q))) (fun q => (kf q))
theorem b_X3_join_21 {r0 : Nat} {l1 : Int32} {l2 : Int32} {fs2 : List Value} {a2 : Nat} {vs5 : List Value} {x5 : Int32} {vs10 : List Value} {fs12 : List Value} {a12 : Nat} {vs15 : List Value} {x15 : Int32} {vs20 : List Value} (hc2 : (h)[r0]? = some (3, fs2)) (hv2 : fs2[0]? = some (.ref a2)) (hc5 : (h)[a2]? = some (100, vs5)) (ho5 : ¬ l1 < 0) (hi5 : vs5[l1.toNatClampNeg]? = some (.int x5)) (hc10 : (h)[a2]? = some (100, vs10)) (ho10 : ¬ l1 < 0) (hl10 : l1.toNatClampNeg < vs10.length) (hc12 : ((h).set a2 (100, vs10.set l1.toNatClampNeg (.int (x5 ||| (1 <<< (l2 &&& 31))))))[r0]? = some (3, fs12)) (hv12 : fs12[0]? = some (.ref a12)) (hc15 : ((h).set a2 (100, vs10.set l1.toNatClampNeg (.int (x5 ||| (1 <<< (l2 &&& 31))))))[a12]? = some (100, vs15)) (ho15 : ¬ l2 < 0) (hi15 : vs15[l2.toNatClampNeg]? = some (.int x15)) (hc20 : ((h).set a2 (100, vs10.set l1.toNatClampNeg (.int (x5 ||| (1 <<< (l2 &&& 31))))))[a12]? = some (100, vs20)) (ho20 : ¬ l2 < 0) (hl20 : l2.toNatClampNeg < vs20.length) (k : SW sc m_X3_join d rc rs 45 [none, none, none] [] (((h).set a2 (100, vs10.set l1.toNatClampNeg (.int (x5 ||| (1 <<< (l2 &&& 31)))))).set a12 (100, vs20.set l2.toNatClampNeg (.int (x15 ||| (1 <<< (l1 &&& 31)))))) P) : SW sc m_X3_join d rc rs 21 [some (.ref r0), some (.int l1), some (.int l2)] [] h P := by
  refine sw_aload_n dX3_join_21 rfl ?_
  refine sw_getf dX3_join_22 lf_X3_9 hc2 hv2 ?_
  refine sw_iload_n dX3_join_25 rfl ?_
  refine sw_dup2 dX3_join_26 (fun _ _ => rfl) (fun _ _ => rfl) ?_
  refine sw_iald dX3_join_27 hc5 ho5 hi5 ?_
  refine sw_iconst (v := 1) dX3_join_28 (by decide) ?_
  refine sw_iload_n dX3_join_29 rfl ?_
  refine sw_ishl dX3_join_30 ?_
  refine sw_ior dX3_join_31 ?_
  refine sw_iast dX3_join_32 hc10 ho10 hl10 ?_
  refine sw_aload_n dX3_join_33 rfl ?_
  refine sw_getf dX3_join_34 lf_X3_9 hc12 hv12 ?_
  refine sw_iload_n dX3_join_37 rfl ?_
  refine sw_dup2 dX3_join_38 (fun _ _ => rfl) (fun _ _ => rfl) ?_
  refine sw_iald dX3_join_39 hc15 ho15 hi15 ?_
  refine sw_iconst (v := 1) dX3_join_40 (by decide) ?_
  refine sw_iload_n dX3_join_41 rfl ?_
  refine sw_ishl dX3_join_42 ?_
  refine sw_ior dX3_join_43 ?_
  refine sw_iast dX3_join_44 hc20 ho20 hl20 ?_
  exact (sw_fg [true, true, true] rfl (k))
theorem b_X3_join_45  (hP : P (.inl none) h) : SW sc m_X3_join d rc rs 45 [none, none, none] [] h P := by
  exact sw_ret (v := none) dX3_join_45 rt_v hP
theorem b_X3_part_0 {r0 : Nat} {l1 : Int32} {l2 : Int32} {v3 : Int32} {g3 : ab_H} {fs3 : List Value} (hr3 : (h)[r0]? = some (3, fs3)) (hm3 : MSE m_X3_isVertex d [.ref r0, .int l1] h (some (.int v3)) g3) (kt : v3 = 0 → SW sc m_X3_part (d + 1) rc rs 48 [none, none, none] [] g3 P) (kf : ¬ (v3 = 0) → SW sc m_X3_part (d + 1) rc rs 8 [some (.ref r0), some (.int l1), some (.int l2)] [] g3 P) : SW sc m_X3_part (d + 1) rc rs 0 [some (.ref r0), some (.int l1), some (.int l2)] [] h P := by
  refine sw_aload_n dX3_part_0 rfl ?_
  refine sw_iload_n dX3_part_1 rfl ?_
  refine sw_cV dX3_part_2 lv_X3_46 hm3 hr3 rfl (by decide) rfl rfl rfl (Nat.le_of_ble_eq_true rfl) (fun _ _ => rfl) rfl ?_
  show SW sc m_X3_part _ _ _ 5 [some (.ref r0), some (.int l1), some (.int l2)] [.int v3] g3 P
  exact sw_if_eq dX3_part_5 (by decide) (fun q => (sw_fg [true, true, true] rfl (kt q))) (fun q => (kf q))
theorem b_X3_part_8 {r0 : Nat} {l1 : Int32} {l2 : Int32} {v3 : Int32} {g3 : ab_H} {fs3 : List Value} (hr3 : (h)[r0]? = some (3, fs3)) (hm3 : MSE m_X3_isVertex d [.ref r0, .int l2] h (some (.int v3)) g3) (kt : v3 = 0 → SW sc m_X3_part (d + 1) rc rs 48 [none, none, none] [] g3 P) (kf : ¬ (v3 = 0) → SW sc m_X3_part (d + 1) rc rs 16 [some (.ref r0), some (.int l1), some (.int l2)] [] g3 P) : SW sc m_X3_part (d + 1) rc rs 8 [some (.ref r0), some (.int l1), some (.int l2)] [] h P := by
  refine sw_aload_n dX3_part_8 rfl ?_
  refine sw_iload_n dX3_part_9 rfl ?_
  refine sw_cV dX3_part_10 lv_X3_46 hm3 hr3 rfl (by decide) rfl rfl rfl (Nat.le_of_ble_eq_true rfl) (fun _ _ => rfl) rfl ?_
  show SW sc m_X3_part _ _ _ 13 [some (.ref r0), some (.int l1), some (.int l2)] [.int v3] g3 P
  exact sw_if_eq dX3_part_13 (by decide) (fun q => (sw_fg [true, true, true] rfl (kt q))) (fun q => (kf q))
theorem b_X3_part_16 {r0 : Nat} {l1 : Int32} {l2 : Int32} {fs2 : List Value} {a2 : Nat} {fs5 : List Value} {a5 : Nat} {vs7 : List Value} {x7 : Int32} {v9 : Int32} {g9 : ab_H} {vs10 : List Value} {fs12 : List Value} {a12 : Nat} {fs15 : List Value} {a15 : Nat} {vs17 : List Value} {x17 : Int32} {v19 : Int32} {g19 : ab_H} {vs20 : List Value} (hc2 : (h)[r0]? = some (3, fs2)) (hv2 : fs2[0]? = some (.ref a2)) (hc5 : (h)[r0]? = some (3, fs5)) (hv5 : fs5[0]? = some (.ref a5)) (hc7 : (h)[a5]? = some (100, vs7)) (ho7 : ¬ l1 < 0) (hi7 : vs7[l1.toNatClampNeg]? = some (.int x7)) (hm9 : MSE m_X9_without d [.int x7, .int l2] h (some (.int v9)) g9) (hc10 : (g9)[a2]? = some (100, vs10)) (ho10 : ¬ l1 < 0) (hl10 : l1.toNatClampNeg < vs10.length) (hc12 : ((g9).set a2 (100, vs10.set l1.toNatClampNeg (.int v9)))[r0]? = some (3, fs12)) (hv12 : fs12[0]? = some (.ref a12)) (hc15 : ((g9).set a2 (100, vs10.set l1.toNatClampNeg (.int v9)))[r0]? = some (3, fs15)) (hv15 : fs15[0]? = some (.ref a15)) (hc17 : ((g9).set a2 (100, vs10.set l1.toNatClampNeg (.int v9)))[a15]? = some (100, vs17)) (ho17 : ¬ l2 < 0) (hi17 : vs17[l2.toNatClampNeg]? = some (.int x17)) (hm19 : MSE m_X9_without d [.int x17, .int l1] ((g9).set a2 (100, vs10.set l1.toNatClampNeg (.int v9))) (some (.int v19)) g19) (hc20 : (g19)[a12]? = some (100, vs20)) (ho20 : ¬ l2 < 0) (hl20 : l2.toNatClampNeg < vs20.length) (k : SW sc m_X3_part (d + 1) rc rs 48 [none, none, none] [] ((g19).set a12 (100, vs20.set l2.toNatClampNeg (.int v19))) P) : SW sc m_X3_part (d + 1) rc rs 16 [some (.ref r0), some (.int l1), some (.int l2)] [] h P := by
  refine sw_aload_n dX3_part_16 rfl ?_
  refine sw_getf dX3_part_17 lf_X3_9 hc2 hv2 ?_
  refine sw_iload_n dX3_part_20 rfl ?_
  refine sw_aload_n dX3_part_21 rfl ?_
  refine sw_getf dX3_part_22 lf_X3_9 hc5 hv5 ?_
  refine sw_iload_n dX3_part_25 rfl ?_
  refine sw_iald dX3_part_26 hc7 ho7 hi7 ?_
  refine sw_iload_n dX3_part_27 rfl ?_
  refine sw_cS dX3_part_28 ls_X3_54 hm9 rfl rfl (Nat.le_of_ble_eq_true rfl) (fun _ _ => rfl) rfl ?_
  show SW sc m_X3_part _ _ _ 31 [some (.ref r0), some (.int l1), some (.int l2)] [.int v9, .int l1, .ref a2] g9 P
  refine sw_iast dX3_part_31 hc10 ho10 hl10 ?_
  refine sw_aload_n dX3_part_32 rfl ?_
  refine sw_getf dX3_part_33 lf_X3_9 hc12 hv12 ?_
  refine sw_iload_n dX3_part_36 rfl ?_
  refine sw_aload_n dX3_part_37 rfl ?_
  refine sw_getf dX3_part_38 lf_X3_9 hc15 hv15 ?_
  refine sw_iload_n dX3_part_41 rfl ?_
  refine sw_iald dX3_part_42 hc17 ho17 hi17 ?_
  refine sw_iload_n dX3_part_43 rfl ?_
  refine sw_cS dX3_part_44 ls_X3_54 hm19 rfl rfl (Nat.le_of_ble_eq_true rfl) (fun _ _ => rfl) rfl ?_
  show SW sc m_X3_part _ _ _ 47 [some (.ref r0), some (.int l1), some (.int l2)] [.int v19, .int l2, .ref a12] g19 P
  refine sw_iast dX3_part_47 hc20 ho20 hl20 ?_
  exact (sw_fg [true, true, true] rfl (k))
theorem b_X3_part_48  (hP : P (.inl none) h) : SW sc m_X3_part d rc rs 48 [none, none, none] [] h P := by
  exact sw_ret (v := none) dX3_part_48 rt_v hP
theorem b_X3_exchange_0 {r0 : Nat} {l1 : Int32} {l2 : Int32} {v3 : Int32} {g3 : ab_H} {fs3 : List Value} (hr3 : (h)[r0]? = some (3, fs3)) (hm3 : MSE m_X3_isVertex d [.ref r0, .int l1] h (some (.int v3)) g3) (kt : v3 = 0 → SW sc m_X3_exchange (d + 1) rc rs 16 [none, none, none, none] [] g3 P) (kf : ¬ (v3 = 0) → SW sc m_X3_exchange (d + 1) rc rs 8 [some (.ref r0), some (.int l1), some (.int l2), none] [] g3 P) : SW sc m_X3_exchange (d + 1) rc rs 0 [some (.ref r0), some (.int l1), some (.int l2), none] [] h P := by
  refine sw_aload_n dX3_exchange_0 rfl ?_
  refine sw_iload_n dX3_exchange_1 rfl ?_
  refine sw_cV dX3_exchange_2 lv_X3_46 hm3 hr3 rfl (by decide) rfl rfl rfl (Nat.le_of_ble_eq_true rfl) (fun _ _ => rfl) rfl ?_
  show SW sc m_X3_exchange _ _ _ 5 [some (.ref r0), some (.int l1), some (.int l2), none] [.int v3] g3 P
  exact sw_if_eq dX3_exchange_5 (by decide) (fun q => (sw_fg [true, true, true, false] rfl (kt q))) (fun q => (kf q))
theorem b_X3_exchange_8 {r0 : Nat} {l1 : Int32} {l2 : Int32} {v3 : Int32} {g3 : ab_H} {fs3 : List Value} (hr3 : (h)[r0]? = some (3, fs3)) (hm3 : MSE m_X3_isVertex d [.ref r0, .int l2] h (some (.int v3)) g3) (kt : ¬ v3 = 0 → SW sc m_X3_exchange (d + 1) rc rs 17 [some (.ref r0), some (.int l1), some (.int l2), none] [] g3 P) (kf : v3 = 0 → SW sc m_X3_exchange (d + 1) rc rs 16 [none, none, none, none] [] g3 P) : SW sc m_X3_exchange (d + 1) rc rs 8 [some (.ref r0), some (.int l1), some (.int l2), none] [] h P := by
  refine sw_aload_n dX3_exchange_8 rfl ?_
  refine sw_iload_n dX3_exchange_9 rfl ?_
  refine sw_cV dX3_exchange_10 lv_X3_46 hm3 hr3 rfl (by decide) rfl rfl rfl (Nat.le_of_ble_eq_true rfl) (fun _ _ => rfl) rfl ?_
  show SW sc m_X3_exchange _ _ _ 13 [some (.ref r0), some (.int l1), some (.int l2), none] [.int v3] g3 P
  exact sw_if_ne dX3_exchange_13 (by decide) (fun q => (kt q)) (fun q => (sw_fg [true, true, true, false] rfl (kf q)))
theorem b_X3_exchange_16  (hP : P (.inl none) h) : SW sc m_X3_exchange d rc rs 16 [none, none, none, none] [] h P := by
  exact sw_ret (v := none) dX3_exchange_16 rt_v hP
theorem b_X3_exchange_17 {r0 : Nat} {l1 : Int32} {l2 : Int32} (k : SW sc m_X3_exchange d rc rs 19 [some (.ref r0), some (.int l1), some (.int l2), some (.int 0)] [] h P) : SW sc m_X3_exchange d rc rs 17 [some (.ref r0), some (.int l1), some (.int l2), none] [] h P := by
  refine sw_iconst (v := 0) dX3_exchange_17 (by decide) ?_
  refine sw_istore_n dX3_exchange_18 (by decide) rfl ?_
  show SW sc m_X3_exchange _ _ _ 19 [some (.ref r0), some (.int l1), some (.int l2), some (.int 0)] [] h P
  exact (k)
theorem b_X3_exchange_19 {r0 : Nat} {l1 : Int32} {l2 : Int32} {l3 : Int32} {fs3 : List Value} {x3 : Int32} (hc3 : (h)[r0]? = some (3, fs3)) (hv3 : fs3[2]? = some (.int x3)) (kt : x3 ≤ l3 → SW sc m_X3_exchange d rc rs 72 [some (.ref r0), some (.int l1), some (.int l2), none] [] h P) (kf : ¬ (x3 ≤ l3) → SW sc m_X3_exchange d rc rs 27 [some (.ref r0), some (.int l1), some (.int l2), some (.int l3)] [] h P) : SW sc m_X3_exchange d rc rs 19 [some (.ref r0), some (.int l1), some (.int l2), some (.int l3)] [] h P := by
  refine sw_iload_n dX3_exchange_19 rfl ?_
  refine sw_aload_n dX3_exchange_20 rfl ?_
  refine sw_getf dX3_exchange_21 lf_X3_18 hc3 hv3 ?_
  exact sw_icmp_ge dX3_exchange_24 (by decide) (fun q => (sw_fg [false, false, false, true] rfl (kt q))) (fun q => (kf q))
theorem b_X3_exchange_27 {r0 : Nat} {l1 : Int32} {l2 : Int32} {l3 : Int32} {fs2 : List Value} {a2 : Nat} {vs4 : List Value} {x4 : Int32} {v6 : Int32} {g6 : ab_H} {fs8 : List Value} {a8 : Nat} {vs10 : List Value} {x10 : Int32} {v12 : Int32} {g12 : ab_H} (hc2 : (h)[r0]? = some (3, fs2)) (hv2 : fs2[0]? = some (.ref a2)) (hc4 : (h)[a2]? = some (100, vs4)) (ho4 : ¬ l3 < 0) (hi4 : vs4[l3.toNatClampNeg]? = some (.int x4)) (hm6 : MSE m_X9_holds d [.int x4, .int l1] h (some (.int v6)) g6) (hc8 : (g6)[r0]? = some (3, fs8)) (hv8 : fs8[0]? = some (.ref a8)) (hc10 : (g6)[a8]? = some (100, vs10)) (ho10 : ¬ l3 < 0) (hi10 : vs10[l3.toNatClampNeg]? = some (.int x10)) (hm12 : MSE m_X9_holds d [.int x10, .int l2] g6 (some (.int v12)) g12) (kt : v6 = v12 → SW sc m_X3_exchange (d + 1) rc rs 66 [some (.ref r0), some (.int l1), some (.int l2), some (.int l3)] [] g12 P) (kf : ¬ (v6 = v12) → SW sc m_X3_exchange (d + 1) rc rs 50 [some (.ref r0), some (.int l1), some (.int l2), some (.int l3)] [] g12 P) : SW sc m_X3_exchange (d + 1) rc rs 27 [some (.ref r0), some (.int l1), some (.int l2), some (.int l3)] [] h P := by
  refine sw_aload_n dX3_exchange_27 rfl ?_
  refine sw_getf dX3_exchange_28 lf_X3_9 hc2 hv2 ?_
  refine sw_iload_n dX3_exchange_31 rfl ?_
  refine sw_iald dX3_exchange_32 hc4 ho4 hi4 ?_
  refine sw_iload_n dX3_exchange_33 rfl ?_
  refine sw_cS dX3_exchange_34 ls_X3_50 hm6 rfl rfl (Nat.le_of_ble_eq_true rfl) (fun _ _ => rfl) rfl ?_
  show SW sc m_X3_exchange _ _ _ 37 [some (.ref r0), some (.int l1), some (.int l2), some (.int l3)] [.int v6] g6 P
  refine sw_aload_n dX3_exchange_37 rfl ?_
  refine sw_getf dX3_exchange_38 lf_X3_9 hc8 hv8 ?_
  refine sw_iload_n dX3_exchange_41 rfl ?_
  refine sw_iald dX3_exchange_42 hc10 ho10 hi10 ?_
  refine sw_iload_n dX3_exchange_43 rfl ?_
  refine sw_cS dX3_exchange_44 ls_X3_50 hm12 rfl rfl (Nat.le_of_ble_eq_true rfl) (fun _ _ => rfl) rfl ?_
  show SW sc m_X3_exchange _ _ _ 47 [some (.ref r0), some (.int l1), some (.int l2), some (.int l3)] [.int v12, .int v6] g12 P
  exact sw_icmp_eq dX3_exchange_47 (by decide) (fun q => (kt q)) (fun q => (kf q))
theorem b_X3_exchange_50 {r0 : Nat} {l1 : Int32} {l2 : Int32} {l3 : Int32} {fs2 : List Value} {a2 : Nat} {vs5 : List Value} {x5 : Int32} {vs14 : List Value} (hc2 : (h)[r0]? = some (3, fs2)) (hv2 : fs2[0]? = some (.ref a2)) (hc5 : (h)[a2]? = some (100, vs5)) (ho5 : ¬ l3 < 0) (hi5 : vs5[l3.toNatClampNeg]? = some (.int x5)) (hc14 : (h)[a2]? = some (100, vs14)) (ho14 : ¬ l3 < 0) (hl14 : l3.toNatClampNeg < vs14.length) (k : SW sc m_X3_exchange d rc rs 66 [some (.ref r0), some (.int l1), some (.int l2), some (.int l3)] [] ((h).set a2 (100, vs14.set l3.toNatClampNeg (.int (x5 ^^^ ((1 <<< (l1 &&& 31)) ||| (1 <<< (l2 &&& 31))))))) P) : SW sc m_X3_exchange d rc rs 50 [some (.ref r0), some (.int l1), some (.int l2), some (.int l3)] [] h P := by
  refine sw_aload_n dX3_exchange_50 rfl ?_
  refine sw_getf dX3_exchange_51 lf_X3_9 hc2 hv2 ?_
  refine sw_iload_n dX3_exchange_54 rfl ?_
  refine sw_dup2 dX3_exchange_55 (fun _ _ => rfl) (fun _ _ => rfl) ?_
  refine sw_iald dX3_exchange_56 hc5 ho5 hi5 ?_
  refine sw_iconst (v := 1) dX3_exchange_57 (by decide) ?_
  refine sw_iload_n dX3_exchange_58 rfl ?_
  refine sw_ishl dX3_exchange_59 ?_
  refine sw_iconst (v := 1) dX3_exchange_60 (by decide) ?_
  refine sw_iload_n dX3_exchange_61 rfl ?_
  refine sw_ishl dX3_exchange_62 ?_
  refine sw_ior dX3_exchange_63 ?_
  refine sw_ixor dX3_exchange_64 ?_
  refine sw_iast dX3_exchange_65 hc14 ho14 hl14 ?_
  exact (k)
theorem b_X3_exchange_66 {r0 : Nat} {l1 : Int32} {l2 : Int32} {l3 : Int32} (k : SW sc m_X3_exchange d rc rs 19 [some (.ref r0), some (.int l1), some (.int l2), some (.int (l3 + 1))] [] h P) : SW sc m_X3_exchange d rc rs 66 [some (.ref r0), some (.int l1), some (.int l2), some (.int l3)] [] h P := by
  refine sw_iinc (v := l3 + 1) dX3_exchange_66 rfl rfl (by decide) rfl ?_
  show SW sc m_X3_exchange _ _ _ 69 [some (.ref r0), some (.int l1), some (.int l2), some (.int (l3 + 1))] [] h P
  exact sw_goto dX3_exchange_69 (by decide) (k)
theorem b_X3_exchange_72 {r0 : Nat} {l1 : Int32} {l2 : Int32} {fs2 : List Value} {a2 : Nat} {vs4 : List Value} {x4 : Int32} {fs7 : List Value} {a7 : Nat} {fs10 : List Value} {a10 : Nat} {vs12 : List Value} {x12 : Int32} {vs13 : List Value} {fs15 : List Value} {a15 : Nat} {vs18 : List Value} (hc2 : (h)[r0]? = some (3, fs2)) (hv2 : fs2[0]? = some (.ref a2)) (hc4 : (h)[a2]? = some (100, vs4)) (ho4 : ¬ l1 < 0) (hi4 : vs4[l1.toNatClampNeg]? = some (.int x4)) (hc7 : (h)[r0]? = some (3, fs7)) (hv7 : fs7[0]? = some (.ref a7)) (hc10 : (h)[r0]? = some (3, fs10)) (hv10 : fs10[0]? = some (.ref a10)) (hc12 : (h)[a10]? = some (100, vs12)) (ho12 : ¬ l2 < 0) (hi12 : vs12[l2.toNatClampNeg]? = some (.int x12)) (hc13 : (h)[a7]? = some (100, vs13)) (ho13 : ¬ l1 < 0) (hl13 : l1.toNatClampNeg < vs13.length) (hc15 : ((h).set a7 (100, vs13.set l1.toNatClampNeg (.int x12)))[r0]? = some (3, fs15)) (hv15 : fs15[0]? = some (.ref a15)) (hc18 : ((h).set a7 (100, vs13.set l1.toNatClampNeg (.int x12)))[a15]? = some (100, vs18)) (ho18 : ¬ l2 < 0) (hl18 : l2.toNatClampNeg < vs18.length) (hP : P (.inl none) (((h).set a7 (100, vs13.set l1.toNatClampNeg (.int x12))).set a15 (100, vs18.set l2.toNatClampNeg (.int x4)))) : SW sc m_X3_exchange d rc rs 72 [some (.ref r0), some (.int l1), some (.int l2), none] [] h P := by
  refine sw_aload_n dX3_exchange_72 rfl ?_
  refine sw_getf dX3_exchange_73 lf_X3_9 hc2 hv2 ?_
  refine sw_iload_n dX3_exchange_76 rfl ?_
  refine sw_iald dX3_exchange_77 hc4 ho4 hi4 ?_
  refine sw_istore_n dX3_exchange_78 (by decide) rfl ?_
  show SW sc m_X3_exchange _ _ _ 79 [some (.ref r0), some (.int l1), some (.int l2), some (.int x4)] [] h P
  refine sw_aload_n dX3_exchange_79 rfl ?_
  refine sw_getf dX3_exchange_80 lf_X3_9 hc7 hv7 ?_
  refine sw_iload_n dX3_exchange_83 rfl ?_
  refine sw_aload_n dX3_exchange_84 rfl ?_
  refine sw_getf dX3_exchange_85 lf_X3_9 hc10 hv10 ?_
  refine sw_iload_n dX3_exchange_88 rfl ?_
  refine sw_iald dX3_exchange_89 hc12 ho12 hi12 ?_
  refine sw_iast dX3_exchange_90 hc13 ho13 hl13 ?_
  refine sw_aload_n dX3_exchange_91 rfl ?_
  refine sw_getf dX3_exchange_92 lf_X3_9 hc15 hv15 ?_
  refine sw_iload_n dX3_exchange_95 rfl ?_
  refine sw_iload_n dX3_exchange_96 rfl ?_
  refine sw_iast dX3_exchange_97 hc18 ho18 hl18 ?_
  exact sw_ret (v := none) dX3_exchange_98 rt_v hP
theorem b_X3_weightOf_0 {r0 : Nat} {l1 : Int32} {v3 : Int32} {g3 : ab_H} {fs3 : List Value} (hr3 : (h)[r0]? = some (3, fs3)) (hm3 : MSE m_X3_isVertex d [.ref r0, .int l1] h (some (.int v3)) g3) (kt : v3 = 0 → SW sc m_X3_weightOf (d + 1) rc rs 17 [none, none] [] g3 P) (kf : ¬ (v3 = 0) → SW sc m_X3_weightOf (d + 1) rc rs 8 [some (.ref r0), some (.int l1)] [] g3 P) : SW sc m_X3_weightOf (d + 1) rc rs 0 [some (.ref r0), some (.int l1)] [] h P := by
  refine sw_aload_n dX3_weightOf_0 rfl ?_
  refine sw_iload_n dX3_weightOf_1 rfl ?_
  refine sw_cV dX3_weightOf_2 lv_X3_46 hm3 hr3 rfl (by decide) rfl rfl rfl (Nat.le_of_ble_eq_true rfl) (fun _ _ => rfl) rfl ?_
  show SW sc m_X3_weightOf _ _ _ 5 [some (.ref r0), some (.int l1)] [.int v3] g3 P
  exact sw_if_eq dX3_weightOf_5 (by decide) (fun q => (sw_fg [true, true] rfl (kt q))) (fun q => (kf q))
theorem b_X3_weightOf_8 {r0 : Nat} {l1 : Int32} {fs2 : List Value} {a2 : Nat} {vs4 : List Value} {x4 : Int32} (hc2 : (h)[r0]? = some (3, fs2)) (hv2 : fs2[1]? = some (.ref a2)) (hc4 : (h)[a2]? = some (100, vs4)) (ho4 : ¬ l1 < 0) (hi4 : vs4[l1.toNatClampNeg]? = some (.int x4)) (k : SW sc m_X3_weightOf d rc rs 18 [none, none] [.int x4] h P) : SW sc m_X3_weightOf d rc rs 8 [some (.ref r0), some (.int l1)] [] h P := by
  refine sw_aload_n dX3_weightOf_8 rfl ?_
  refine sw_getf dX3_weightOf_9 lf_X3_15 hc2 hv2 ?_
  refine sw_iload_n dX3_weightOf_12 rfl ?_
  refine sw_iald dX3_weightOf_13 hc4 ho4 hi4 ?_
  exact sw_goto dX3_weightOf_14 (by decide) (sw_fg [true, true] rfl (k))
theorem b_X3_weightOf_17  (k : SW sc m_X3_weightOf d rc rs 18 [none, none] [.int 0] h P) : SW sc m_X3_weightOf d rc rs 17 [none, none] [] h P := by
  refine sw_iconst (v := 0) dX3_weightOf_17 (by decide) ?_
  exact (k)
theorem b_X3_weightOf_18 {s0 : Int32} (hP : P (.inl (some (.int s0))) h) : SW sc m_X3_weightOf d rc rs 18 [none, none] [.int s0] h P := by
  exact sw_ret (v := (some (.int s0))) dX3_weightOf_18 rt_i hP
theorem b_X3_weigh_0 {r0 : Nat} {l1 : Int32} {l2 : Int32} {v3 : Int32} {g3 : ab_H} {fs3 : List Value} (hr3 : (h)[r0]? = some (3, fs3)) (hm3 : MSE m_X3_isVertex d [.ref r0, .int l1] h (some (.int v3)) g3) (kt : v3 = 0 → SW sc m_X3_weigh (d + 1) rc rs 15 [none, none, none] [] g3 P) (kf : ¬ (v3 = 0) → SW sc m_X3_weigh (d + 1) rc rs 8 [some (.ref r0), some (.int l1), some (.int l2)] [] g3 P) : SW sc m_X3_weigh (d + 1) rc rs 0 [some (.ref r0), some (.int l1), some (.int l2)] [] h P := by
  refine sw_aload_n dX3_weigh_0 rfl ?_
  refine sw_iload_n dX3_weigh_1 rfl ?_
  refine sw_cV dX3_weigh_2 lv_X3_46 hm3 hr3 rfl (by decide) rfl rfl rfl (Nat.le_of_ble_eq_true rfl) (fun _ _ => rfl) rfl ?_
  show SW sc m_X3_weigh _ _ _ 5 [some (.ref r0), some (.int l1), some (.int l2)] [.int v3] g3 P
  exact sw_if_eq dX3_weigh_5 (by decide) (fun q => (sw_fg [true, true, true] rfl (kt q))) (fun q => (kf q))
theorem b_X3_weigh_8 {r0 : Nat} {l1 : Int32} {l2 : Int32} {fs2 : List Value} {a2 : Nat} {vs5 : List Value} (hc2 : (h)[r0]? = some (3, fs2)) (hv2 : fs2[1]? = some (.ref a2)) (hc5 : (h)[a2]? = some (100, vs5)) (ho5 : ¬ l1 < 0) (hl5 : l1.toNatClampNeg < vs5.length) (k : SW sc m_X3_weigh d rc rs 15 [none, none, none] [] ((h).set a2 (100, vs5.set l1.toNatClampNeg (.int l2))) P) : SW sc m_X3_weigh d rc rs 8 [some (.ref r0), some (.int l1), some (.int l2)] [] h P := by
  refine sw_aload_n dX3_weigh_8 rfl ?_
  refine sw_getf dX3_weigh_9 lf_X3_15 hc2 hv2 ?_
  refine sw_iload_n dX3_weigh_12 rfl ?_
  refine sw_iload_n dX3_weigh_13 rfl ?_
  refine sw_iast dX3_weigh_14 hc5 ho5 hl5 ?_
  exact (sw_fg [true, true, true] rfl (k))
theorem b_X3_weigh_15  (hP : P (.inl none) h) : SW sc m_X3_weigh d rc rs 15 [none, none, none] [] h P := by
  exact sw_ret (v := none) dX3_weigh_15 rt_v hP
theorem b_X3_weightOfSet_0 {r0 : Nat} {l1 : Int32} (k : SW sc m_X3_weightOfSet d rc rs 4 [some (.ref r0), some (.int l1), some (.int 0), some (.int 0)] [] h P) : SW sc m_X3_weightOfSet d rc rs 0 [some (.ref r0), some (.int l1), none, none] [] h P := by
  refine sw_iconst (v := 0) dX3_weightOfSet_0 (by decide) ?_
  refine sw_istore_n dX3_weightOfSet_1 (by decide) rfl ?_
  show SW sc m_X3_weightOfSet _ _ _ 2 [some (.ref r0), some (.int l1), some (.int 0), none] [] h P
  refine sw_iconst (v := 0) dX3_weightOfSet_2 (by decide) ?_
  refine sw_istore_n dX3_weightOfSet_3 (by decide) rfl ?_
  show SW sc m_X3_weightOfSet _ _ _ 4 [some (.ref r0), some (.int l1), some (.int 0), some (.int 0)] [] h P
  exact (k)
theorem b_X3_weightOfSet_4 {r0 : Nat} {l1 : Int32} {l2 : Int32} {l3 : Int32} {fs3 : List Value} {x3 : Int32} (hc3 : (h)[r0]? = some (3, fs3)) (hv3 : fs3[2]? = some (.int x3)) (kt : x3 ≤ l3 → SW sc m_X3_weightOfSet d rc rs 35 [none, none, some (.int l2), none] [] h P) (kf : ¬ (x3 ≤ l3) → SW sc m_X3_weightOfSet d rc rs 12 [some (.ref r0), some (.int l1), some (.int l2), some (.int l3)] [] h P) : SW sc m_X3_weightOfSet d rc rs 4 [some (.ref r0), some (.int l1), some (.int l2), some (.int l3)] [] h P := by
  refine sw_iload_n dX3_weightOfSet_4 rfl ?_
  refine sw_aload_n dX3_weightOfSet_5 rfl ?_
  refine sw_getf dX3_weightOfSet_6 lf_X3_18 hc3 hv3 ?_
  exact sw_icmp_ge dX3_weightOfSet_9 (by decide) (fun q => (sw_fg [true, true, false, true] rfl (kt q))) (fun q => (kf q))
theorem b_X3_weightOfSet_12 {r0 : Nat} {l1 : Int32} {l2 : Int32} {l3 : Int32} {v3 : Int32} {g3 : ab_H} (hm3 : MSE m_X9_holds d [.int l1, .int l3] h (some (.int v3)) g3) (kt : v3 = 0 → SW sc m_X3_weightOfSet (d + 1) rc rs 29 [some (.ref r0), some (.int l1), some (.int l2), some (.int l3)] [] g3 P) (kf : ¬ (v3 = 0) → SW sc m_X3_weightOfSet (d + 1) rc rs 20 [some (.ref r0), some (.int l1), some (.int l2), some (.int l3)] [] g3 P) : SW sc m_X3_weightOfSet (d + 1) rc rs 12 [some (.ref r0), some (.int l1), some (.int l2), some (.int l3)] [] h P := by
  refine sw_iload_n dX3_weightOfSet_12 rfl ?_
  refine sw_iload_n dX3_weightOfSet_13 rfl ?_
  refine sw_cS dX3_weightOfSet_14 ls_X3_50 hm3 rfl rfl (Nat.le_of_ble_eq_true rfl) (fun _ _ => rfl) rfl ?_
  show SW sc m_X3_weightOfSet _ _ _ 17 [some (.ref r0), some (.int l1), some (.int l2), some (.int l3)] [.int v3] g3 P
  exact sw_if_eq dX3_weightOfSet_17 (by decide) (fun q => (kt q)) (fun q => (kf q))
theorem b_X3_weightOfSet_20 {r0 : Nat} {l1 : Int32} {l2 : Int32} {l3 : Int32} {fs3 : List Value} {a3 : Nat} {vs5 : List Value} {x5 : Int32} (hc3 : (h)[r0]? = some (3, fs3)) (hv3 : fs3[1]? = some (.ref a3)) (hc5 : (h)[a3]? = some (100, vs5)) (ho5 : ¬ l3 < 0) (hi5 : vs5[l3.toNatClampNeg]? = some (.int x5)) (k : SW sc m_X3_weightOfSet d rc rs 29 [some (.ref r0), some (.int l1), some (.int (l2 + x5)), some (.int l3)] [] h P) : SW sc m_X3_weightOfSet d rc rs 20 [some (.ref r0), some (.int l1), some (.int l2), some (.int l3)] [] h P := by
  refine sw_iload_n dX3_weightOfSet_20 rfl ?_
  refine sw_aload_n dX3_weightOfSet_21 rfl ?_
  refine sw_getf dX3_weightOfSet_22 lf_X3_15 hc3 hv3 ?_
  refine sw_iload_n dX3_weightOfSet_25 rfl ?_
  refine sw_iald dX3_weightOfSet_26 hc5 ho5 hi5 ?_
  refine sw_iadd dX3_weightOfSet_27 ?_
  refine sw_istore_n dX3_weightOfSet_28 (by decide) rfl ?_
  show SW sc m_X3_weightOfSet _ _ _ 29 [some (.ref r0), some (.int l1), some (.int (l2 + x5)), some (.int l3)] [] h P
  exact (k)
theorem b_X3_weightOfSet_29 {r0 : Nat} {l1 : Int32} {l2 : Int32} {l3 : Int32} (k : SW sc m_X3_weightOfSet d rc rs 4 [some (.ref r0), some (.int l1), some (.int l2), some (.int (l3 + 1))] [] h P) : SW sc m_X3_weightOfSet d rc rs 29 [some (.ref r0), some (.int l1), some (.int l2), some (.int l3)] [] h P := by
  refine sw_iinc (v := l3 + 1) dX3_weightOfSet_29 rfl rfl (by decide) rfl ?_
  show SW sc m_X3_weightOfSet _ _ _ 32 [some (.ref r0), some (.int l1), some (.int l2), some (.int (l3 + 1))] [] h P
  exact sw_goto dX3_weightOfSet_32 (by decide) (k)
theorem b_X3_weightOfSet_35 {l2 : Int32} (hP : P (.inl (some (.int l2))) h) : SW sc m_X3_weightOfSet d rc rs 35 [none, none, some (.int l2), none] [] h P := by
  refine sw_iload_n dX3_weightOfSet_35 rfl ?_
  exact sw_ret (v := (some (.int l2))) dX3_weightOfSet_36 rt_i hP
theorem b_X3_edges_0 {r0 : Nat} (k : SW sc m_X3_edges d rc rs 4 [some (.ref r0), some (.int 0), some (.int 0)] [] h P) : SW sc m_X3_edges d rc rs 0 [some (.ref r0), none, none] [] h P := by
  refine sw_iconst (v := 0) dX3_edges_0 (by decide) ?_
  refine sw_istore_n dX3_edges_1 (by decide) rfl ?_
  show SW sc m_X3_edges _ _ _ 2 [some (.ref r0), some (.int 0), none] [] h P
  refine sw_iconst (v := 0) dX3_edges_2 (by decide) ?_
  refine sw_istore_n dX3_edges_3 (by decide) rfl ?_
  show SW sc m_X3_edges _ _ _ 4 [some (.ref r0), some (.int 0), some (.int 0)] [] h P
  exact (k)
theorem b_X3_edges_4 {r0 : Nat} {l1 : Int32} {l2 : Int32} {fs3 : List Value} {x3 : Int32} (hc3 : (h)[r0]? = some (3, fs3)) (hv3 : fs3[2]? = some (.int x3)) (kt : x3 ≤ l2 → SW sc m_X3_edges d rc rs 30 [none, some (.int l1), none] [] h P) (kf : ¬ (x3 ≤ l2) → SW sc m_X3_edges d rc rs 12 [some (.ref r0), some (.int l1), some (.int l2)] [] h P) : SW sc m_X3_edges d rc rs 4 [some (.ref r0), some (.int l1), some (.int l2)] [] h P := by
  refine sw_iload_n dX3_edges_4 rfl ?_
  refine sw_aload_n dX3_edges_5 rfl ?_
  refine sw_getf dX3_edges_6 lf_X3_18 hc3 hv3 ?_
  exact sw_icmp_ge dX3_edges_9 (by decide) (fun q => (sw_fg [true, false, true] rfl (kt q))) (fun q => (kf q))
theorem b_X3_edges_12 {r0 : Nat} {l1 : Int32} {l2 : Int32} {fs3 : List Value} {a3 : Nat} {vs5 : List Value} {x5 : Int32} {v6 : Int32} {g6 : ab_H} (hc3 : (h)[r0]? = some (3, fs3)) (hv3 : fs3[0]? = some (.ref a3)) (hc5 : (h)[a3]? = some (100, vs5)) (ho5 : ¬ l2 < 0) (hi5 : vs5[l2.toNatClampNeg]? = some (.int x5)) (hm6 : MSE m_J6_bitCount_0f7a4 d [.int x5] h (some (.int v6)) g6) (k : SW sc m_X3_edges (d + 1) rc rs 4 [some (.ref r0), some (.int (l1 + v6)), some (.int (l2 + 1))] [] g6 P) : SW sc m_X3_edges (d + 1) rc rs 12 [some (.ref r0), some (.int l1), some (.int l2)] [] h P := by
  refine sw_iload_n dX3_edges_12 rfl ?_
  refine sw_aload_n dX3_edges_13 rfl ?_
  refine sw_getf dX3_edges_14 lf_X3_9 hc3 hv3 ?_
  refine sw_iload_n dX3_edges_17 rfl ?_
  refine sw_iald dX3_edges_18 hc5 ho5 hi5 ?_
  refine sw_cS dX3_edges_19 ls_X3_37 hm6 rfl rfl (Nat.le_of_ble_eq_true rfl) (fun _ _ => rfl) rfl ?_
  show SW sc m_X3_edges _ _ _ 22 [some (.ref r0), some (.int l1), some (.int l2)] [.int v6, .int l1] g6 P
  refine sw_iadd dX3_edges_22 ?_
  refine sw_istore_n dX3_edges_23 (by decide) rfl ?_
  show SW sc m_X3_edges _ _ _ 24 [some (.ref r0), some (.int (l1 + v6)), some (.int l2)] [] g6 P
  refine sw_iinc (v := l2 + 1) dX3_edges_24 rfl rfl (by decide) rfl ?_
  show SW sc m_X3_edges _ _ _ 27 [some (.ref r0), some (.int (l1 + v6)), some (.int (l2 + 1))] [] g6 P
  exact sw_goto dX3_edges_27 (by decide) (k)
theorem b_X3_edges_30 {l1 : Int32} (hz3 : ¬ (2 : Int32) = 0) (hP : P (.inl (some (.int (l1 / 2)))) h) : SW sc m_X3_edges d rc rs 30 [none, some (.int l1), none] [] h P := by
  refine sw_iload_n dX3_edges_30 rfl ?_
  refine sw_iconst (v := 2) dX3_edges_31 (by decide) ?_
  refine sw_idiv dX3_edges_32 hz3 ?_
  exact sw_ret (v := (some (.int (l1 / 2)))) dX3_edges_33 rt_i hP
theorem b_X3_setOfDegree_0 {r0 : Nat} {l1 : Int32} {l2 : Int32} (k : SW sc m_X3_setOfDegree d rc rs 5 [some (.ref r0), some (.int l1), some (.int l2), some (.int 0), some (.int 0)] [] h P) : SW sc m_X3_setOfDegree d rc rs 0 [some (.ref r0), some (.int l1), some (.int l2), none, none] [] h P := by
  refine sw_iconst (v := 0) dX3_setOfDegree_0 (by decide) ?_
  refine sw_istore_n dX3_setOfDegree_1 (by decide) rfl ?_
  show SW sc m_X3_setOfDegree _ _ _ 2 [some (.ref r0), some (.int l1), some (.int l2), some (.int 0), none] [] h P
  refine sw_iconst (v := 0) dX3_setOfDegree_2 (by decide) ?_
  refine sw_istore dX3_setOfDegree_3 (by decide) rfl ?_
  show SW sc m_X3_setOfDegree _ _ _ 5 [some (.ref r0), some (.int l1), some (.int l2), some (.int 0), some (.int 0)] [] h P
  exact (k)
theorem b_X3_setOfDegree_5 {r0 : Nat} {l1 : Int32} {l2 : Int32} {l3 : Int32} {l4 : Int32} {fs3 : List Value} {x3 : Int32} (hc3 : (h)[r0]? = some (3, fs3)) (hv3 : fs3[2]? = some (.int x3)) (kt : x3 ≤ l4 → SW sc m_X3_setOfDegree d rc rs 50 [none, none, none, some (.int l3), none] [] h P) (kf : ¬ (x3 ≤ l4) → SW sc m_X3_setOfDegree d rc rs 14 [some (.ref r0), some (.int l1), some (.int l2), some (.int l3), some (.int l4)] [] h P) : SW sc m_X3_setOfDegree d rc rs 5 [some (.ref r0), some (.int l1), some (.int l2), some (.int l3), some (.int l4)] [] h P := by
  refine sw_iload dX3_setOfDegree_5 rfl ?_
  refine sw_aload_n dX3_setOfDegree_7 rfl ?_
  refine sw_getf dX3_setOfDegree_8 lf_X3_18 hc3 hv3 ?_
  exact sw_icmp_ge dX3_setOfDegree_11 (by decide) (fun q => (sw_fg [true, true, true, false, true] rfl (kt q))) (fun q => (kf q))
theorem b_X3_setOfDegree_14 {r0 : Nat} {l1 : Int32} {l2 : Int32} {l3 : Int32} {l4 : Int32} {v3 : Int32} {g3 : ab_H} (hm3 : MSE m_X9_holds d [.int l1, .int l4] h (some (.int v3)) g3) (kt : v3 = 0 → SW sc m_X3_setOfDegree (d + 1) rc rs 44 [some (.ref r0), some (.int l1), some (.int l2), some (.int l3), some (.int l4)] [] g3 P) (kf : ¬ (v3 = 0) → SW sc m_X3_setOfDegree (d + 1) rc rs 23 [some (.ref r0), some (.int l1), some (.int l2), some (.int l3), some (.int l4)] [] g3 P) : SW sc m_X3_setOfDegree (d + 1) rc rs 14 [some (.ref r0), some (.int l1), some (.int l2), some (.int l3), some (.int l4)] [] h P := by
  refine sw_iload_n dX3_setOfDegree_14 rfl ?_
  refine sw_iload dX3_setOfDegree_15 rfl ?_
  refine sw_cS dX3_setOfDegree_17 ls_X3_50 hm3 rfl rfl (Nat.le_of_ble_eq_true rfl) (fun _ _ => rfl) rfl ?_
  show SW sc m_X3_setOfDegree _ _ _ 20 [some (.ref r0), some (.int l1), some (.int l2), some (.int l3), some (.int l4)] [.int v3] g3 P
  exact sw_if_eq dX3_setOfDegree_20 (by decide) (fun q => (kt q)) (fun q => (kf q))
theorem b_X3_setOfDegree_23 {r0 : Nat} {l1 : Int32} {l2 : Int32} {l3 : Int32} {l4 : Int32} {fs2 : List Value} {a2 : Nat} {vs4 : List Value} {x4 : Int32} {v5 : Int32} {g5 : ab_H} (hc2 : (h)[r0]? = some (3, fs2)) (hv2 : fs2[0]? = some (.ref a2)) (hc4 : (h)[a2]? = some (100, vs4)) (ho4 : ¬ l4 < 0) (hi4 : vs4[l4.toNatClampNeg]? = some (.int x4)) (hm5 : MSE m_J6_bitCount_0f7a4 d [.int x4] h (some (.int v5)) g5) (kt : ¬ v5 = l2 → SW sc m_X3_setOfDegree (d + 1) rc rs 44 [some (.ref r0), some (.int l1), some (.int l2), some (.int l3), some (.int l4)] [] g5 P) (kf : v5 = l2 → SW sc m_X3_setOfDegree (d + 1) rc rs 37 [some (.ref r0), some (.int l1), some (.int l2), some (.int l3), some (.int l4)] [] g5 P) : SW sc m_X3_setOfDegree (d + 1) rc rs 23 [some (.ref r0), some (.int l1), some (.int l2), some (.int l3), some (.int l4)] [] h P := by
  refine sw_aload_n dX3_setOfDegree_23 rfl ?_
  refine sw_getf dX3_setOfDegree_24 lf_X3_9 hc2 hv2 ?_
  refine sw_iload dX3_setOfDegree_27 rfl ?_
  refine sw_iald dX3_setOfDegree_29 hc4 ho4 hi4 ?_
  refine sw_cS dX3_setOfDegree_30 ls_X3_37 hm5 rfl rfl (Nat.le_of_ble_eq_true rfl) (fun _ _ => rfl) rfl ?_
  show SW sc m_X3_setOfDegree _ _ _ 33 [some (.ref r0), some (.int l1), some (.int l2), some (.int l3), some (.int l4)] [.int v5] g5 P
  refine sw_iload_n dX3_setOfDegree_33 rfl ?_
  exact sw_icmp_ne dX3_setOfDegree_34 (by decide) (fun q => (kt q)) (fun q => (kf q))
theorem b_X3_setOfDegree_37 {r0 : Nat} {l1 : Int32} {l2 : Int32} {l3 : Int32} {l4 : Int32} (k : SW sc m_X3_setOfDegree d rc rs 44 [some (.ref r0), some (.int l1), some (.int l2), some (.int (l3 ||| (1 <<< (l4 &&& 31)))), some (.int l4)] [] h P) : SW sc m_X3_setOfDegree d rc rs 37 [some (.ref r0), some (.int l1), some (.int l2), some (.int l3), some (.int l4)] [] h P := by
  refine sw_iload_n dX3_setOfDegree_37 rfl ?_
  refine sw_iconst (v := 1) dX3_setOfDegree_38 (by decide) ?_
  refine sw_iload dX3_setOfDegree_39 rfl ?_
  refine sw_ishl dX3_setOfDegree_41 ?_
  refine sw_ior dX3_setOfDegree_42 ?_
  refine sw_istore_n dX3_setOfDegree_43 (by decide) rfl ?_
  show SW sc m_X3_setOfDegree _ _ _ 44 [some (.ref r0), some (.int l1), some (.int l2), some (.int (l3 ||| (1 <<< (l4 &&& 31)))), some (.int l4)] [] h P
  exact (k)
theorem b_X3_setOfDegree_44 {r0 : Nat} {l1 : Int32} {l2 : Int32} {l3 : Int32} {l4 : Int32} (k : SW sc m_X3_setOfDegree d rc rs 5 [some (.ref r0), some (.int l1), some (.int l2), some (.int l3), some (.int (l4 + 1))] [] h P) : SW sc m_X3_setOfDegree d rc rs 44 [some (.ref r0), some (.int l1), some (.int l2), some (.int l3), some (.int l4)] [] h P := by
  refine sw_iinc (v := l4 + 1) dX3_setOfDegree_44 rfl rfl (by decide) rfl ?_
  show SW sc m_X3_setOfDegree _ _ _ 47 [some (.ref r0), some (.int l1), some (.int l2), some (.int l3), some (.int (l4 + 1))] [] h P
  exact sw_goto dX3_setOfDegree_47 (by decide) (k)
theorem b_X3_setOfDegree_50 {l3 : Int32} (hP : P (.inl (some (.int l3))) h) : SW sc m_X3_setOfDegree d rc rs 50 [none, none, none, some (.int l3), none] [] h P := by
  refine sw_iload_n dX3_setOfDegree_50 rfl ?_
  exact sw_ret (v := (some (.int l3))) dX3_setOfDegree_51 rt_i hP
theorem b_X3_countOfDegree_0 {r0 : Nat} {l1 : Int32} {l2 : Int32} {v4 : Int32} {g4 : ab_H} {fs4 : List Value} {v5 : Int32} {g5 : ab_H} (hr4 : (h)[r0]? = some (3, fs4)) (hm4 : MSE m_X3_setOfDegree d [.ref r0, .int l1, .int l2] h (some (.int v4)) g4) (hm5 : MSE m_J6_bitCount_0f7a4 d [.int v4] g4 (some (.int v5)) g5) (hP : P (.inl (some (.int v5))) g5) : SW sc m_X3_countOfDegree (d + 1) rc rs 0 [some (.ref r0), some (.int l1), some (.int l2)] [] h P := by
  refine sw_aload_n dX3_countOfDegree_0 rfl ?_
  refine sw_iload_n dX3_countOfDegree_1 rfl ?_
  refine sw_iload_n dX3_countOfDegree_2 rfl ?_
  refine sw_cV dX3_countOfDegree_3 lv_X3_58 hm4 hr4 rfl (by decide) rfl rfl rfl (Nat.le_of_ble_eq_true rfl) (fun _ _ => rfl) rfl ?_
  show SW sc m_X3_countOfDegree _ _ _ 6 [some (.ref r0), some (.int l1), some (.int l2)] [.int v4] g4 P
  refine sw_cS dX3_countOfDegree_6 ls_X3_37 hm5 rfl rfl (Nat.le_of_ble_eq_true rfl) (fun _ _ => rfl) rfl ?_
  show SW sc m_X3_countOfDegree _ _ _ 9 [some (.ref r0), some (.int l1), some (.int l2)] [.int v5] g5 P
  exact sw_ret (v := (some (.int v5))) dX3_countOfDegree_9 rt_i hP
theorem b_X3_dropLeaves_0 {r0 : Nat} {v3 : Int32} {g3 : ab_H} {fs3 : List Value} {v5 : Int32} {g5 : ab_H} {fs5 : List Value} (hr3 : (h)[r0]? = some (3, fs3)) (hm3 : MSE m_X3_all d [.ref r0] h (some (.int v3)) g3) (hr5 : (g3)[r0]? = some (3, fs5)) (hm5 : MSE m_X3_setOfDegree d [.ref r0, .int v3, .int 1] g3 (some (.int v5)) g5) (k : SW sc m_X3_dropLeaves (d + 1) rc rs 12 [some (.ref r0), some (.int v5), some (.int 0)] [] g5 P) : SW sc m_X3_dropLeaves (d + 1) rc rs 0 [some (.ref r0), none, none] [] h P := by
  refine sw_aload_n dX3_dropLeaves_0 rfl ?_
  refine sw_aload_n dX3_dropLeaves_1 rfl ?_
  refine sw_cV dX3_dropLeaves_2 lv_X3_61 hm3 hr3 rfl (by decide) rfl rfl rfl (Nat.le_of_ble_eq_true rfl) (fun _ _ => rfl) rfl ?_
  show SW sc m_X3_dropLeaves _ _ _ 5 [some (.ref r0), none, none] [.int v3, .ref r0] g3 P
  refine sw_iconst (v := 1) dX3_dropLeaves_5 (by decide) ?_
  refine sw_cV dX3_dropLeaves_6 lv_X3_58 hm5 hr5 rfl (by decide) rfl rfl rfl (Nat.le_of_ble_eq_true rfl) (fun _ _ => rfl) rfl ?_
  show SW sc m_X3_dropLeaves _ _ _ 9 [some (.ref r0), none, none] [.int v5] g5 P
  refine sw_istore_n dX3_dropLeaves_9 (by decide) rfl ?_
  show SW sc m_X3_dropLeaves _ _ _ 10 [some (.ref r0), some (.int v5), none] [] g5 P
  refine sw_iconst (v := 0) dX3_dropLeaves_10 (by decide) ?_
  refine sw_istore_n dX3_dropLeaves_11 (by decide) rfl ?_
  show SW sc m_X3_dropLeaves _ _ _ 12 [some (.ref r0), some (.int v5), some (.int 0)] [] g5 P
  exact (k)
theorem b_X3_dropLeaves_12 {r0 : Nat} {l1 : Int32} {l2 : Int32} {fs3 : List Value} {x3 : Int32} (hc3 : (h)[r0]? = some (3, fs3)) (hv3 : fs3[2]? = some (.int x3)) (kt : x3 ≤ l2 → SW sc m_X3_dropLeaves d rc rs 48 [none, none, none] [] h P) (kf : ¬ (x3 ≤ l2) → SW sc m_X3_dropLeaves d rc rs 20 [some (.ref r0), some (.int l1), some (.int l2)] [] h P) : SW sc m_X3_dropLeaves d rc rs 12 [some (.ref r0), some (.int l1), some (.int l2)] [] h P := by
  refine sw_iload_n dX3_dropLeaves_12 rfl ?_
  refine sw_aload_n dX3_dropLeaves_13 rfl ?_
  refine sw_getf dX3_dropLeaves_14 lf_X3_18 hc3 hv3 ?_
  exact sw_icmp_ge dX3_dropLeaves_17 (by decide) (fun q => (sw_fg [true, true, true] rfl (kt q))) (fun q => (kf q))
theorem b_X3_dropLeaves_20 {r0 : Nat} {l1 : Int32} {l2 : Int32} {v3 : Int32} {g3 : ab_H} (hm3 : MSE m_X9_holds d [.int l1, .int l2] h (some (.int v3)) g3) (kt : v3 = 0 → SW sc m_X3_dropLeaves (d + 1) rc rs 42 [some (.ref r0), some (.int l1), some (.int l2)] [] g3 P) (kf : ¬ (v3 = 0) → SW sc m_X3_dropLeaves (d + 1) rc rs 28 [some (.ref r0), some (.int l1), some (.int l2)] [] g3 P) : SW sc m_X3_dropLeaves (d + 1) rc rs 20 [some (.ref r0), some (.int l1), some (.int l2)] [] h P := by
  refine sw_iload_n dX3_dropLeaves_20 rfl ?_
  refine sw_iload_n dX3_dropLeaves_21 rfl ?_
  refine sw_cS dX3_dropLeaves_22 ls_X3_50 hm3 rfl rfl (Nat.le_of_ble_eq_true rfl) (fun _ _ => rfl) rfl ?_
  show SW sc m_X3_dropLeaves _ _ _ 25 [some (.ref r0), some (.int l1), some (.int l2)] [.int v3] g3 P
  exact sw_if_eq dX3_dropLeaves_25 (by decide) (fun q => (kt q)) (fun q => (kf q))
theorem b_X3_dropLeaves_28 {r0 : Nat} {l1 : Int32} {l2 : Int32} {fs4 : List Value} {a4 : Nat} {vs6 : List Value} {x6 : Int32} {v7 : Int32} {g7 : ab_H} {g8 : ab_H} {fs8 : List Value} (hc4 : (h)[r0]? = some (3, fs4)) (hv4 : fs4[0]? = some (.ref a4)) (hc6 : (h)[a4]? = some (100, vs6)) (ho6 : ¬ l2 < 0) (hi6 : vs6[l2.toNatClampNeg]? = some (.int x6)) (hm7 : MSE m_X9_lowest d [.int x6] h (some (.int v7)) g7) (hr8 : (g7)[r0]? = some (3, fs8)) (hm8 : MSE m_X3_part d [.ref r0, .int l2, .int v7] g7 none g8) (k : SW sc m_X3_dropLeaves (d + 1) rc rs 42 [some (.ref r0), some (.int l1), some (.int l2)] [] g8 P) : SW sc m_X3_dropLeaves (d + 1) rc rs 28 [some (.ref r0), some (.int l1), some (.int l2)] [] h P := by
  refine sw_aload_n dX3_dropLeaves_28 rfl ?_
  refine sw_iload_n dX3_dropLeaves_29 rfl ?_
  refine sw_aload_n dX3_dropLeaves_30 rfl ?_
  refine sw_getf dX3_dropLeaves_31 lf_X3_9 hc4 hv4 ?_
  refine sw_iload_n dX3_dropLeaves_34 rfl ?_
  refine sw_iald dX3_dropLeaves_35 hc6 ho6 hi6 ?_
  refine sw_cS dX3_dropLeaves_36 ls_X3_65 hm7 rfl rfl (Nat.le_of_ble_eq_true rfl) (fun _ _ => rfl) rfl ?_
  show SW sc m_X3_dropLeaves _ _ _ 39 [some (.ref r0), some (.int l1), some (.int l2)] [.int v7, .int l2, .ref r0] g7 P
  refine sw_cV dX3_dropLeaves_39 lv_X3_68 hm8 hr8 rfl (by decide) rfl rfl rfl (Nat.le_of_ble_eq_true rfl) (fun _ _ => rfl) rfl ?_
  show SW sc m_X3_dropLeaves _ _ _ 42 [some (.ref r0), some (.int l1), some (.int l2)] [] g8 P
  exact (k)
theorem b_X3_dropLeaves_42 {r0 : Nat} {l1 : Int32} {l2 : Int32} (k : SW sc m_X3_dropLeaves d rc rs 12 [some (.ref r0), some (.int l1), some (.int (l2 + 1))] [] h P) : SW sc m_X3_dropLeaves d rc rs 42 [some (.ref r0), some (.int l1), some (.int l2)] [] h P := by
  refine sw_iinc (v := l2 + 1) dX3_dropLeaves_42 rfl rfl (by decide) rfl ?_
  show SW sc m_X3_dropLeaves _ _ _ 45 [some (.ref r0), some (.int l1), some (.int (l2 + 1))] [] h P
  exact sw_goto dX3_dropLeaves_45 (by decide) (k)
theorem b_X3_dropLeaves_48  (hP : P (.inl none) h) : SW sc m_X3_dropLeaves d rc rs 48 [none, none, none] [] h P := by
  exact sw_ret (v := none) dX3_dropLeaves_48 rt_v hP
theorem b_X3_withNeighbors_0 {r0 : Nat} {l1 : Int32} (k : SW sc m_X3_withNeighbors d rc rs 4 [some (.ref r0), some (.int l1), some (.int l1), some (.int 0)] [] h P) : SW sc m_X3_withNeighbors d rc rs 0 [some (.ref r0), some (.int l1), none, none] [] h P := by
  refine sw_iload_n dX3_withNeighbors_0 rfl ?_
  refine sw_istore_n dX3_withNeighbors_1 (by decide) rfl ?_
  show SW sc m_X3_withNeighbors _ _ _ 2 [some (.ref r0), some (.int l1), some (.int l1), none] [] h P
  refine sw_iconst (v := 0) dX3_withNeighbors_2 (by decide) ?_
  refine sw_istore_n dX3_withNeighbors_3 (by decide) rfl ?_
  show SW sc m_X3_withNeighbors _ _ _ 4 [some (.ref r0), some (.int l1), some (.int l1), some (.int 0)] [] h P
  exact (k)
theorem b_X3_withNeighbors_4 {r0 : Nat} {l1 : Int32} {l2 : Int32} {l3 : Int32} {fs3 : List Value} {x3 : Int32} (hc3 : (h)[r0]? = some (3, fs3)) (hv3 : fs3[2]? = some (.int x3)) (kt : x3 ≤ l3 → SW sc m_X3_withNeighbors d rc rs 35 [none, none, some (.int l2), none] [] h P) (kf : ¬ (x3 ≤ l3) → SW sc m_X3_withNeighbors d rc rs 12 [some (.ref r0), some (.int l1), some (.int l2), some (.int l3)] [] h P) : SW sc m_X3_withNeighbors d rc rs 4 [some (.ref r0), some (.int l1), some (.int l2), some (.int l3)] [] h P := by
  refine sw_iload_n dX3_withNeighbors_4 rfl ?_
  refine sw_aload_n dX3_withNeighbors_5 rfl ?_
  refine sw_getf dX3_withNeighbors_6 lf_X3_18 hc3 hv3 ?_
  exact sw_icmp_ge dX3_withNeighbors_9 (by decide) (fun q => (sw_fg [true, true, false, true] rfl (kt q))) (fun q => (kf q))
theorem b_X3_withNeighbors_12 {r0 : Nat} {l1 : Int32} {l2 : Int32} {l3 : Int32} {v3 : Int32} {g3 : ab_H} (hm3 : MSE m_X9_holds d [.int l1, .int l3] h (some (.int v3)) g3) (kt : v3 = 0 → SW sc m_X3_withNeighbors (d + 1) rc rs 29 [some (.ref r0), some (.int l1), some (.int l2), some (.int l3)] [] g3 P) (kf : ¬ (v3 = 0) → SW sc m_X3_withNeighbors (d + 1) rc rs 20 [some (.ref r0), some (.int l1), some (.int l2), some (.int l3)] [] g3 P) : SW sc m_X3_withNeighbors (d + 1) rc rs 12 [some (.ref r0), some (.int l1), some (.int l2), some (.int l3)] [] h P := by
  refine sw_iload_n dX3_withNeighbors_12 rfl ?_
  refine sw_iload_n dX3_withNeighbors_13 rfl ?_
  refine sw_cS dX3_withNeighbors_14 ls_X3_50 hm3 rfl rfl (Nat.le_of_ble_eq_true rfl) (fun _ _ => rfl) rfl ?_
  show SW sc m_X3_withNeighbors _ _ _ 17 [some (.ref r0), some (.int l1), some (.int l2), some (.int l3)] [.int v3] g3 P
  exact sw_if_eq dX3_withNeighbors_17 (by decide) (fun q => (kt q)) (fun q => (kf q))
theorem b_X3_withNeighbors_20 {r0 : Nat} {l1 : Int32} {l2 : Int32} {l3 : Int32} {fs3 : List Value} {a3 : Nat} {vs5 : List Value} {x5 : Int32} (hc3 : (h)[r0]? = some (3, fs3)) (hv3 : fs3[0]? = some (.ref a3)) (hc5 : (h)[a3]? = some (100, vs5)) (ho5 : ¬ l3 < 0) (hi5 : vs5[l3.toNatClampNeg]? = some (.int x5)) (k : SW sc m_X3_withNeighbors d rc rs 29 [some (.ref r0), some (.int l1), some (.int (l2 ||| x5)), some (.int l3)] [] h P) : SW sc m_X3_withNeighbors d rc rs 20 [some (.ref r0), some (.int l1), some (.int l2), some (.int l3)] [] h P := by
  refine sw_iload_n dX3_withNeighbors_20 rfl ?_
  refine sw_aload_n dX3_withNeighbors_21 rfl ?_
  refine sw_getf dX3_withNeighbors_22 lf_X3_9 hc3 hv3 ?_
  refine sw_iload_n dX3_withNeighbors_25 rfl ?_
  refine sw_iald dX3_withNeighbors_26 hc5 ho5 hi5 ?_
  refine sw_ior dX3_withNeighbors_27 ?_
  refine sw_istore_n dX3_withNeighbors_28 (by decide) rfl ?_
  show SW sc m_X3_withNeighbors _ _ _ 29 [some (.ref r0), some (.int l1), some (.int (l2 ||| x5)), some (.int l3)] [] h P
  exact (k)
theorem b_X3_withNeighbors_29 {r0 : Nat} {l1 : Int32} {l2 : Int32} {l3 : Int32} (k : SW sc m_X3_withNeighbors d rc rs 4 [some (.ref r0), some (.int l1), some (.int l2), some (.int (l3 + 1))] [] h P) : SW sc m_X3_withNeighbors d rc rs 29 [some (.ref r0), some (.int l1), some (.int l2), some (.int l3)] [] h P := by
  refine sw_iinc (v := l3 + 1) dX3_withNeighbors_29 rfl rfl (by decide) rfl ?_
  show SW sc m_X3_withNeighbors _ _ _ 32 [some (.ref r0), some (.int l1), some (.int l2), some (.int (l3 + 1))] [] h P
  exact sw_goto dX3_withNeighbors_32 (by decide) (k)
theorem b_X3_withNeighbors_35 {l2 : Int32} (hP : P (.inl (some (.int l2))) h) : SW sc m_X3_withNeighbors d rc rs 35 [none, none, some (.int l2), none] [] h P := by
  refine sw_iload_n dX3_withNeighbors_35 rfl ?_
  exact sw_ret (v := (some (.int l2))) dX3_withNeighbors_36 rt_i hP
theorem b_X3_reachable_0 {r0 : Nat} {l1 : Int32} {l2 : Int32} (k : SW sc m_X3_reachable d rc rs 7 [some (.ref r0), none, some (.int l2), some (.int (1 <<< (l1 &&& 31))), some (.int 0), none] [] h P) : SW sc m_X3_reachable d rc rs 0 [some (.ref r0), some (.int l1), some (.int l2), none, none, none] [] h P := by
  refine sw_iconst (v := 1) dX3_reachable_0 (by decide) ?_
  refine sw_iload_n dX3_reachable_1 rfl ?_
  refine sw_ishl dX3_reachable_2 ?_
  refine sw_istore_n dX3_reachable_3 (by decide) rfl ?_
  show SW sc m_X3_reachable _ _ _ 4 [some (.ref r0), some (.int l1), some (.int l2), some (.int (1 <<< (l1 &&& 31))), none, none] [] h P
  refine sw_iconst (v := 0) dX3_reachable_4 (by decide) ?_
  refine sw_istore dX3_reachable_5 (by decide) rfl ?_
  show SW sc m_X3_reachable _ _ _ 7 [some (.ref r0), some (.int l1), some (.int l2), some (.int (1 <<< (l1 &&& 31))), some (.int 0), none] [] h P
  exact (sw_fg [false, true, false, false, false, false] rfl (k))
theorem b_X3_reachable_7 {r0 : Nat} {l2 : Int32} {l3 : Int32} {l4 : Int32} {fs3 : List Value} {x3 : Int32} (hc3 : (h)[r0]? = some (3, fs3)) (hv3 : fs3[2]? = some (.int x3)) (kt : x3 ≤ l4 → SW sc m_X3_reachable d rc rs 42 [none, none, none, some (.int l3), none, none] [] h P) (kf : ¬ (x3 ≤ l4) → SW sc m_X3_reachable d rc rs 16 [some (.ref r0), none, some (.int l2), some (.int l3), some (.int l4), none] [] h P) : SW sc m_X3_reachable d rc rs 7 [some (.ref r0), none, some (.int l2), some (.int l3), some (.int l4), none] [] h P := by
  refine sw_iload dX3_reachable_7 rfl ?_
  refine sw_aload_n dX3_reachable_9 rfl ?_
  refine sw_getf dX3_reachable_10 lf_X3_18 hc3 hv3 ?_
  exact sw_icmp_ge dX3_reachable_13 (by decide) (fun q => (sw_fg [true, false, true, false, true, false] rfl (kt q))) (fun q => (kf q))
theorem b_X3_reachable_16 {r0 : Nat} {l2 : Int32} {l3 : Int32} {l4 : Int32} {v3 : Int32} {g3 : ab_H} {fs3 : List Value} (hr3 : (h)[r0]? = some (3, fs3)) (hm3 : MSE m_X3_withNeighbors d [.ref r0, .int l3] h (some (.int v3)) g3) (kt : ¬ (v3 &&& l2) = l3 → SW sc m_X3_reachable (d + 1) rc rs 33 [some (.ref r0), none, some (.int l2), none, some (.int l4), some (.int (v3 &&& l2))] [] g3 P) (kf : (v3 &&& l2) = l3 → SW sc m_X3_reachable (d + 1) rc rs 31 [none, none, none, some (.int l3), none, none] [] g3 P) : SW sc m_X3_reachable (d + 1) rc rs 16 [some (.ref r0), none, some (.int l2), some (.int l3), some (.int l4), none] [] h P := by
  refine sw_aload_n dX3_reachable_16 rfl ?_
  refine sw_iload_n dX3_reachable_17 rfl ?_
  refine sw_cV dX3_reachable_18 lv_X3_72 hm3 hr3 rfl (by decide) rfl rfl rfl (Nat.le_of_ble_eq_true rfl) (fun _ _ => rfl) rfl ?_
  show SW sc m_X3_reachable _ _ _ 21 [some (.ref r0), none, some (.int l2), some (.int l3), some (.int l4), none] [.int v3] g3 P
  refine sw_iload_n dX3_reachable_21 rfl ?_
  refine sw_iand dX3_reachable_22 ?_
  refine sw_istore dX3_reachable_23 (by decide) rfl ?_
  show SW sc m_X3_reachable _ _ _ 25 [some (.ref r0), none, some (.int l2), some (.int l3), some (.int l4), some (.int (v3 &&& l2))] [] g3 P
  refine sw_iload dX3_reachable_25 rfl ?_
  refine sw_iload_n dX3_reachable_27 rfl ?_
  exact sw_icmp_ne dX3_reachable_28 (by decide) (fun q => (sw_fg [false, false, false, true, false, false] rfl (kt q))) (fun q => (sw_fg [true, false, true, false, true, true] rfl (kf q)))
theorem b_X3_reachable_31 {l3 : Int32} (hP : P (.inl (some (.int l3))) h) : SW sc m_X3_reachable d rc rs 31 [none, none, none, some (.int l3), none, none] [] h P := by
  refine sw_iload_n dX3_reachable_31 rfl ?_
  exact sw_ret (v := (some (.int l3))) dX3_reachable_32 rt_i hP
theorem b_X3_reachable_33 {r0 : Nat} {l2 : Int32} {l4 : Int32} {l5 : Int32} (k : SW sc m_X3_reachable d rc rs 7 [some (.ref r0), none, some (.int l2), some (.int l5), some (.int (l4 + 1)), none] [] h P) : SW sc m_X3_reachable d rc rs 33 [some (.ref r0), none, some (.int l2), none, some (.int l4), some (.int l5)] [] h P := by
  refine sw_iload dX3_reachable_33 rfl ?_
  refine sw_istore_n dX3_reachable_35 (by decide) rfl ?_
  show SW sc m_X3_reachable _ _ _ 36 [some (.ref r0), none, some (.int l2), some (.int l5), some (.int l4), some (.int l5)] [] h P
  refine sw_iinc (v := l4 + 1) dX3_reachable_36 rfl rfl (by decide) rfl ?_
  show SW sc m_X3_reachable _ _ _ 39 [some (.ref r0), none, some (.int l2), some (.int l5), some (.int (l4 + 1)), some (.int l5)] [] h P
  exact sw_goto dX3_reachable_39 (by decide) (sw_fg [false, false, false, false, false, true] rfl (k))
theorem b_X3_reachable_42 {l3 : Int32} (hP : P (.inl (some (.int l3))) h) : SW sc m_X3_reachable d rc rs 42 [none, none, none, some (.int l3), none, none] [] h P := by
  refine sw_iload_n dX3_reachable_42 rfl ?_
  exact sw_ret (v := (some (.int l3))) dX3_reachable_43 rt_i hP
theorem b_X3_componentWith_0 {r0 : Nat} {l1 : Int32} {v4 : Int32} {g4 : ab_H} {fs4 : List Value} {v5 : Int32} {g5 : ab_H} {fs5 : List Value} (hr4 : (h)[r0]? = some (3, fs4)) (hm4 : MSE m_X3_all d [.ref r0] h (some (.int v4)) g4) (hr5 : (g4)[r0]? = some (3, fs5)) (hm5 : MSE m_X3_reachable d [.ref r0, .int l1, .int v4] g4 (some (.int v5)) g5) (hP : P (.inl (some (.int v5))) g5) : SW sc m_X3_componentWith (d + 1) rc rs 0 [some (.ref r0), some (.int l1)] [] h P := by
  refine sw_aload_n dX3_componentWith_0 rfl ?_
  refine sw_iload_n dX3_componentWith_1 rfl ?_
  refine sw_aload_n dX3_componentWith_2 rfl ?_
  refine sw_cV dX3_componentWith_3 lv_X3_61 hm4 hr4 rfl (by decide) rfl rfl rfl (Nat.le_of_ble_eq_true rfl) (fun _ _ => rfl) rfl ?_
  show SW sc m_X3_componentWith _ _ _ 6 [some (.ref r0), some (.int l1)] [.int v4, .int l1, .ref r0] g4 P
  refine sw_cV dX3_componentWith_6 lv_X3_75 hm5 hr5 rfl (by decide) rfl rfl rfl (Nat.le_of_ble_eq_true rfl) (fun _ _ => rfl) rfl ?_
  show SW sc m_X3_componentWith _ _ _ 9 [some (.ref r0), some (.int l1)] [.int v5] g5 P
  exact sw_ret (v := (some (.int v5))) dX3_componentWith_9 rt_i hP
theorem b_X3_componentSet_0 {r0 : Nat} {l1 : Int32} {v2 : Int32} {g2 : ab_H} {fs2 : List Value} (hr2 : (h)[r0]? = some (3, fs2)) (hm2 : MSE m_X3_all d [.ref r0] h (some (.int v2)) g2) (k : SW sc m_X3_componentSet (d + 1) rc rs 10 [some (.ref r0), some (.int l1), some (.int v2), some (.int 0), some (.int 0), none] [] g2 P) : SW sc m_X3_componentSet (d + 1) rc rs 0 [some (.ref r0), some (.int l1), none, none, none, none] [] h P := by
  refine sw_aload_n dX3_componentSet_0 rfl ?_
  refine sw_cV dX3_componentSet_1 lv_X3_61 hm2 hr2 rfl (by decide) rfl rfl rfl (Nat.le_of_ble_eq_true rfl) (fun _ _ => rfl) rfl ?_
  show SW sc m_X3_componentSet _ _ _ 4 [some (.ref r0), some (.int l1), none, none, none, none] [.int v2] g2 P
  refine sw_istore_n dX3_componentSet_4 (by decide) rfl ?_
  show SW sc m_X3_componentSet _ _ _ 5 [some (.ref r0), some (.int l1), some (.int v2), none, none, none] [] g2 P
  refine sw_iconst (v := 0) dX3_componentSet_5 (by decide) ?_
  refine sw_istore_n dX3_componentSet_6 (by decide) rfl ?_
  show SW sc m_X3_componentSet _ _ _ 7 [some (.ref r0), some (.int l1), some (.int v2), some (.int 0), none, none] [] g2 P
  refine sw_iconst (v := 0) dX3_componentSet_7 (by decide) ?_
  refine sw_istore dX3_componentSet_8 (by decide) rfl ?_
  show SW sc m_X3_componentSet _ _ _ 10 [some (.ref r0), some (.int l1), some (.int v2), some (.int 0), some (.int 0), none] [] g2 P
  exact (k)
theorem b_X3_componentSet_10 {r0 : Nat} {l1 : Int32} {l2 : Int32} {l3 : Int32} {l4 : Int32} {fs3 : List Value} {x3 : Int32} (hc3 : (h)[r0]? = some (3, fs3)) (hv3 : fs3[2]? = some (.int x3)) (kt : x3 ≤ l4 → SW sc m_X3_componentSet d rc rs 60 [none, none, none, none, none, none] [] h P) (kf : ¬ (x3 ≤ l4) → SW sc m_X3_componentSet d rc rs 19 [some (.ref r0), some (.int l1), some (.int l2), some (.int l3), some (.int l4), none] [] h P) : SW sc m_X3_componentSet d rc rs 10 [some (.ref r0), some (.int l1), some (.int l2), some (.int l3), some (.int l4), none] [] h P := by
  refine sw_iload dX3_componentSet_10 rfl ?_
  refine sw_aload_n dX3_componentSet_12 rfl ?_
  refine sw_getf dX3_componentSet_13 lf_X3_18 hc3 hv3 ?_
  exact sw_icmp_ge dX3_componentSet_16 (by decide) (fun q => (sw_fg [true, true, true, true, true, false] rfl (kt q))) (fun q => (kf q))
theorem b_X3_componentSet_19 {r0 : Nat} {l1 : Int32} {l2 : Int32} {l3 : Int32} {l4 : Int32} {v3 : Int32} {g3 : ab_H} (hm3 : MSE m_X9_holds d [.int l2, .int l4] h (some (.int v3)) g3) (kt : v3 = 0 → SW sc m_X3_componentSet (d + 1) rc rs 54 [some (.ref r0), some (.int l1), some (.int l2), some (.int l3), some (.int l4), none] [] g3 P) (kf : ¬ (v3 = 0) → SW sc m_X3_componentSet (d + 1) rc rs 28 [some (.ref r0), some (.int l1), some (.int l2), some (.int l3), some (.int l4), none] [] g3 P) : SW sc m_X3_componentSet (d + 1) rc rs 19 [some (.ref r0), some (.int l1), some (.int l2), some (.int l3), some (.int l4), none] [] h P := by
  refine sw_iload_n dX3_componentSet_19 rfl ?_
  refine sw_iload dX3_componentSet_20 rfl ?_
  refine sw_cS dX3_componentSet_22 ls_X3_50 hm3 rfl rfl (Nat.le_of_ble_eq_true rfl) (fun _ _ => rfl) rfl ?_
  show SW sc m_X3_componentSet _ _ _ 25 [some (.ref r0), some (.int l1), some (.int l2), some (.int l3), some (.int l4), none] [.int v3] g3 P
  exact sw_if_eq dX3_componentSet_25 (by decide) (fun q => (kt q)) (fun q => (kf q))
theorem b_X3_componentSet_28 {r0 : Nat} {l1 : Int32} {l2 : Int32} {l3 : Int32} {l4 : Int32} {v3 : Int32} {g3 : ab_H} {fs3 : List Value} (hr3 : (h)[r0]? = some (3, fs3)) (hm3 : MSE m_X3_componentWith d [.ref r0, .int l4] h (some (.int v3)) g3) (kt : ¬ l3 = l1 → SW sc m_X3_componentSet (d + 1) rc rs 44 [some (.ref r0), some (.int l1), some (.int l2), some (.int l3), some (.int l4), some (.int v3)] [] g3 P) (kf : l3 = l1 → SW sc m_X3_componentSet (d + 1) rc rs 41 [none, none, none, none, none, some (.int v3)] [] g3 P) : SW sc m_X3_componentSet (d + 1) rc rs 28 [some (.ref r0), some (.int l1), some (.int l2), some (.int l3), some (.int l4), none] [] h P := by
  refine sw_aload_n dX3_componentSet_28 rfl ?_
  refine sw_iload dX3_componentSet_29 rfl ?_
  refine sw_cV dX3_componentSet_31 lv_X3_78 hm3 hr3 rfl (by decide) rfl rfl rfl (Nat.le_of_ble_eq_true rfl) (fun _ _ => rfl) rfl ?_
  show SW sc m_X3_componentSet _ _ _ 34 [some (.ref r0), some (.int l1), some (.int l2), some (.int l3), some (.int l4), none] [.int v3] g3 P
  refine sw_istore dX3_componentSet_34 (by decide) rfl ?_
  show SW sc m_X3_componentSet _ _ _ 36 [some (.ref r0), some (.int l1), some (.int l2), some (.int l3), some (.int l4), some (.int v3)] [] g3 P
  refine sw_iload_n dX3_componentSet_36 rfl ?_
  refine sw_iload_n dX3_componentSet_37 rfl ?_
  exact sw_icmp_ne dX3_componentSet_38 (by decide) (fun q => (kt q)) (fun q => (sw_fg [true, true, true, true, true, false] rfl (kf q)))
theorem b_X3_componentSet_41 {l5 : Int32} (hP : P (.inl (some (.int l5))) h) : SW sc m_X3_componentSet d rc rs 41 [none, none, none, none, none, some (.int l5)] [] h P := by
  refine sw_iload dX3_componentSet_41 rfl ?_
  exact sw_ret (v := (some (.int l5))) dX3_componentSet_43 rt_i hP
theorem b_X3_componentSet_44 {r0 : Nat} {l1 : Int32} {l2 : Int32} {l3 : Int32} {l4 : Int32} {l5 : Int32} (k : SW sc m_X3_componentSet d rc rs 54 [some (.ref r0), some (.int l1), some (.int (l2 &&& (l5 ^^^ (-1)))), some (.int (l3 + 1)), some (.int l4), none] [] h P) : SW sc m_X3_componentSet d rc rs 44 [some (.ref r0), some (.int l1), some (.int l2), some (.int l3), some (.int l4), some (.int l5)] [] h P := by
  refine sw_iload_n dX3_componentSet_44 rfl ?_
  refine sw_iload dX3_componentSet_45 rfl ?_
  refine sw_iconst (v := (-1)) dX3_componentSet_47 (by decide) ?_
  refine sw_ixor dX3_componentSet_48 ?_
  refine sw_iand dX3_componentSet_49 ?_
  refine sw_istore_n dX3_componentSet_50 (by decide) rfl ?_
  show SW sc m_X3_componentSet _ _ _ 51 [some (.ref r0), some (.int l1), some (.int (l2 &&& (l5 ^^^ (-1)))), some (.int l3), some (.int l4), some (.int l5)] [] h P
  refine sw_iinc (v := l3 + 1) dX3_componentSet_51 rfl rfl (by decide) rfl ?_
  show SW sc m_X3_componentSet _ _ _ 54 [some (.ref r0), some (.int l1), some (.int (l2 &&& (l5 ^^^ (-1)))), some (.int (l3 + 1)), some (.int l4), some (.int l5)] [] h P
  exact (sw_fg [false, false, false, false, false, true] rfl (k))
theorem b_X3_componentSet_54 {r0 : Nat} {l1 : Int32} {l2 : Int32} {l3 : Int32} {l4 : Int32} (k : SW sc m_X3_componentSet d rc rs 10 [some (.ref r0), some (.int l1), some (.int l2), some (.int l3), some (.int (l4 + 1)), none] [] h P) : SW sc m_X3_componentSet d rc rs 54 [some (.ref r0), some (.int l1), some (.int l2), some (.int l3), some (.int l4), none] [] h P := by
  refine sw_iinc (v := l4 + 1) dX3_componentSet_54 rfl rfl (by decide) rfl ?_
  show SW sc m_X3_componentSet _ _ _ 57 [some (.ref r0), some (.int l1), some (.int l2), some (.int l3), some (.int (l4 + 1)), none] [] h P
  exact sw_goto dX3_componentSet_57 (by decide) (k)
theorem b_X3_componentSet_60  (hP : P (.inl (some (.int 0))) h) : SW sc m_X3_componentSet d rc rs 60 [none, none, none, none, none, none] [] h P := by
  refine sw_iconst (v := 0) dX3_componentSet_60 (by decide) ?_
  exact sw_ret (v := (some (.int 0))) dX3_componentSet_61 rt_i hP
theorem b_X3_componentNumber_0 {r0 : Nat} {l1 : Int32} {v3 : Int32} {g3 : ab_H} {fs3 : List Value} {v4 : Int32} {g4 : ab_H} (hr3 : (h)[r0]? = some (3, fs3)) (hm3 : MSE m_X3_componentWith d [.ref r0, .int l1] h (some (.int v3)) g3) (hm4 : MSE m_X9_lowest d [.int v3] g3 (some (.int v4)) g4) (k : SW sc m_X3_componentNumber (d + 1) rc rs 14 [some (.ref r0), none, some (.int v4), some (.int 0), some (.int 0)] [] g4 P) : SW sc m_X3_componentNumber (d + 1) rc rs 0 [some (.ref r0), some (.int l1), none, none, none] [] h P := by
  refine sw_aload_n dX3_componentNumber_0 rfl ?_
  refine sw_iload_n dX3_componentNumber_1 rfl ?_
  refine sw_cV dX3_componentNumber_2 lv_X3_78 hm3 hr3 rfl (by decide) rfl rfl rfl (Nat.le_of_ble_eq_true rfl) (fun _ _ => rfl) rfl ?_
  show SW sc m_X3_componentNumber _ _ _ 5 [some (.ref r0), some (.int l1), none, none, none] [.int v3] g3 P
  refine sw_cS dX3_componentNumber_5 ls_X3_65 hm4 rfl rfl (Nat.le_of_ble_eq_true rfl) (fun _ _ => rfl) rfl ?_
  show SW sc m_X3_componentNumber _ _ _ 8 [some (.ref r0), some (.int l1), none, none, none] [.int v4] g4 P
  refine sw_istore_n dX3_componentNumber_8 (by decide) rfl ?_
  show SW sc m_X3_componentNumber _ _ _ 9 [some (.ref r0), some (.int l1), some (.int v4), none, none] [] g4 P
  refine sw_iconst (v := 0) dX3_componentNumber_9 (by decide) ?_
  refine sw_istore_n dX3_componentNumber_10 (by decide) rfl ?_
  show SW sc m_X3_componentNumber _ _ _ 11 [some (.ref r0), some (.int l1), some (.int v4), some (.int 0), none] [] g4 P
  refine sw_iconst (v := 0) dX3_componentNumber_11 (by decide) ?_
  refine sw_istore dX3_componentNumber_12 (by decide) rfl ?_
  show SW sc m_X3_componentNumber _ _ _ 14 [some (.ref r0), some (.int l1), some (.int v4), some (.int 0), some (.int 0)] [] g4 P
  exact (sw_fg [false, true, false, false, false] rfl (k))
theorem b_X3_componentNumber_14 {r0 : Nat} {l2 : Int32} {l3 : Int32} {l4 : Int32} (kt : l2 ≤ l4 → SW sc m_X3_componentNumber d rc rs 43 [none, none, none, some (.int l3), none] [] h P) (kf : ¬ (l2 ≤ l4) → SW sc m_X3_componentNumber d rc rs 20 [some (.ref r0), none, some (.int l2), some (.int l3), some (.int l4)] [] h P) : SW sc m_X3_componentNumber d rc rs 14 [some (.ref r0), none, some (.int l2), some (.int l3), some (.int l4)] [] h P := by
  refine sw_iload dX3_componentNumber_14 rfl ?_
  refine sw_iload_n dX3_componentNumber_16 rfl ?_
  exact sw_icmp_ge dX3_componentNumber_17 (by decide) (fun q => (sw_fg [true, false, true, false, true] rfl (kt q))) (fun q => (kf q))
theorem b_X3_componentNumber_20 {r0 : Nat} {l2 : Int32} {l3 : Int32} {l4 : Int32} {v3 : Int32} {g3 : ab_H} {fs3 : List Value} {v4 : Int32} {g4 : ab_H} (hr3 : (h)[r0]? = some (3, fs3)) (hm3 : MSE m_X3_componentWith d [.ref r0, .int l4] h (some (.int v3)) g3) (hm4 : MSE m_X9_lowest d [.int v3] g3 (some (.int v4)) g4) (kt : ¬ v4 = l4 → SW sc m_X3_componentNumber (d + 1) rc rs 37 [some (.ref r0), none, some (.int l2), some (.int l3), some (.int l4)] [] g4 P) (kf : v4 = l4 → SW sc m_X3_componentNumber (d + 1) rc rs 34 [some (.ref r0), none, some (.int l2), some (.int l3), some (.int l4)] [] g4 P) : SW sc m_X3_componentNumber (d + 1) rc rs 20 [some (.ref r0), none, some (.int l2), some (.int l3), some (.int l4)] [] h P := by
  refine sw_aload_n dX3_componentNumber_20 rfl ?_
  refine sw_iload dX3_componentNumber_21 rfl ?_
  refine sw_cV dX3_componentNumber_23 lv_X3_78 hm3 hr3 rfl (by decide) rfl rfl rfl (Nat.le_of_ble_eq_true rfl) (fun _ _ => rfl) rfl ?_
  show SW sc m_X3_componentNumber _ _ _ 26 [some (.ref r0), none, some (.int l2), some (.int l3), some (.int l4)] [.int v3] g3 P
  refine sw_cS dX3_componentNumber_26 ls_X3_65 hm4 rfl rfl (Nat.le_of_ble_eq_true rfl) (fun _ _ => rfl) rfl ?_
  show SW sc m_X3_componentNumber _ _ _ 29 [some (.ref r0), none, some (.int l2), some (.int l3), some (.int l4)] [.int v4] g4 P
  refine sw_iload dX3_componentNumber_29 rfl ?_
  exact sw_icmp_ne dX3_componentNumber_31 (by decide) (fun q => (kt q)) (fun q => (kf q))
theorem b_X3_componentNumber_34 {r0 : Nat} {l2 : Int32} {l3 : Int32} {l4 : Int32} (k : SW sc m_X3_componentNumber d rc rs 37 [some (.ref r0), none, some (.int l2), some (.int (l3 + 1)), some (.int l4)] [] h P) : SW sc m_X3_componentNumber d rc rs 34 [some (.ref r0), none, some (.int l2), some (.int l3), some (.int l4)] [] h P := by
  refine sw_iinc (v := l3 + 1) dX3_componentNumber_34 rfl rfl (by decide) rfl ?_
  show SW sc m_X3_componentNumber _ _ _ 37 [some (.ref r0), none, some (.int l2), some (.int (l3 + 1)), some (.int l4)] [] h P
  exact (k)
theorem b_X3_componentNumber_37 {r0 : Nat} {l2 : Int32} {l3 : Int32} {l4 : Int32} (k : SW sc m_X3_componentNumber d rc rs 14 [some (.ref r0), none, some (.int l2), some (.int l3), some (.int (l4 + 1))] [] h P) : SW sc m_X3_componentNumber d rc rs 37 [some (.ref r0), none, some (.int l2), some (.int l3), some (.int l4)] [] h P := by
  refine sw_iinc (v := l4 + 1) dX3_componentNumber_37 rfl rfl (by decide) rfl ?_
  show SW sc m_X3_componentNumber _ _ _ 40 [some (.ref r0), none, some (.int l2), some (.int l3), some (.int (l4 + 1))] [] h P
  exact sw_goto dX3_componentNumber_40 (by decide) (k)
theorem b_X3_componentNumber_43 {l3 : Int32} (hP : P (.inl (some (.int l3))) h) : SW sc m_X3_componentNumber d rc rs 43 [none, none, none, some (.int l3), none] [] h P := by
  refine sw_iload_n dX3_componentNumber_43 rfl ?_
  exact sw_ret (v := (some (.int l3))) dX3_componentNumber_44 rt_i hP
theorem b_X3_components_0 {r0 : Nat} {fs2 : List Value} {x2 : Int32} {v4 : Int32} {g4 : ab_H} {fs4 : List Value} (hc2 : (h)[r0]? = some (3, fs2)) (hv2 : fs2[2]? = some (.int x2)) (hr4 : (h)[r0]? = some (3, fs4)) (hm4 : MSE m_X3_edges d [.ref r0] h (some (.int v4)) g4) (hP : P (.inl (some (.int (x2 - v4)))) g4) : SW sc m_X3_components (d + 1) rc rs 0 [some (.ref r0)] [] h P := by
  refine sw_aload_n dX3_components_0 rfl ?_
  refine sw_getf dX3_components_1 lf_X3_18 hc2 hv2 ?_
  refine sw_aload_n dX3_components_4 rfl ?_
  refine sw_cV dX3_components_5 lv_X3_81 hm4 hr4 rfl (by decide) rfl rfl rfl (Nat.le_of_ble_eq_true rfl) (fun _ _ => rfl) rfl ?_
  show SW sc m_X3_components _ _ _ 8 [some (.ref r0)] [.int v4, .int x2] g4 P
  refine sw_isub dX3_components_8 ?_
  exact sw_ret (v := (some (.int (x2 - v4)))) dX3_components_9 rt_i hP
theorem b_X3_steps_0 {r0 : Nat} {l1 : Int32} {l2 : Int32} (k : SW sc m_X3_steps d rc rs 7 [some (.ref r0), none, some (.int l2), some (.int (1 <<< (l1 &&& 31))), some (.int 0)] [] h P) : SW sc m_X3_steps d rc rs 0 [some (.ref r0), some (.int l1), some (.int l2), none, none] [] h P := by
  refine sw_iconst (v := 1) dX3_steps_0 (by decide) ?_
  refine sw_iload_n dX3_steps_1 rfl ?_
  refine sw_ishl dX3_steps_2 ?_
  refine sw_istore_n dX3_steps_3 (by decide) rfl ?_
  show SW sc m_X3_steps _ _ _ 4 [some (.ref r0), some (.int l1), some (.int l2), some (.int (1 <<< (l1 &&& 31))), none] [] h P
  refine sw_iconst (v := 0) dX3_steps_4 (by decide) ?_
  refine sw_istore dX3_steps_5 (by decide) rfl ?_
  show SW sc m_X3_steps _ _ _ 7 [some (.ref r0), some (.int l1), some (.int l2), some (.int (1 <<< (l1 &&& 31))), some (.int 0)] [] h P
  exact (sw_fg [false, true, false, false, false] rfl (k))
theorem b_X3_steps_7 {r0 : Nat} {l2 : Int32} {l3 : Int32} {l4 : Int32} {fs3 : List Value} {x3 : Int32} (hc3 : (h)[r0]? = some (3, fs3)) (hv3 : fs3[2]? = some (.int x3)) (kt : x3 ≤ l4 → SW sc m_X3_steps d rc rs 39 [none, none, none, none, none] [] h P) (kf : ¬ (x3 ≤ l4) → SW sc m_X3_steps d rc rs 16 [some (.ref r0), none, some (.int l2), some (.int l3), some (.int l4)] [] h P) : SW sc m_X3_steps d rc rs 7 [some (.ref r0), none, some (.int l2), some (.int l3), some (.int l4)] [] h P := by
  refine sw_iload dX3_steps_7 rfl ?_
  refine sw_aload_n dX3_steps_9 rfl ?_
  refine sw_getf dX3_steps_10 lf_X3_18 hc3 hv3 ?_
  exact sw_icmp_ge dX3_steps_13 (by decide) (fun q => (sw_fg [true, false, true, true, true] rfl (kt q))) (fun q => (kf q))
theorem b_X3_steps_16 {r0 : Nat} {l2 : Int32} {l3 : Int32} {l4 : Int32} {v3 : Int32} {g3 : ab_H} (hm3 : MSE m_X9_holds d [.int l3, .int l2] h (some (.int v3)) g3) (kt : v3 = 0 → SW sc m_X3_steps (d + 1) rc rs 27 [some (.ref r0), none, some (.int l2), some (.int l3), some (.int l4)] [] g3 P) (kf : ¬ (v3 = 0) → SW sc m_X3_steps (d + 1) rc rs 24 [none, none, none, none, some (.int l4)] [] g3 P) : SW sc m_X3_steps (d + 1) rc rs 16 [some (.ref r0), none, some (.int l2), some (.int l3), some (.int l4)] [] h P := by
  refine sw_iload_n dX3_steps_16 rfl ?_
  refine sw_iload_n dX3_steps_17 rfl ?_
  refine sw_cS dX3_steps_18 ls_X3_50 hm3 rfl rfl (Nat.le_of_ble_eq_true rfl) (fun _ _ => rfl) rfl ?_
  show SW sc m_X3_steps _ _ _ 21 [some (.ref r0), none, some (.int l2), some (.int l3), some (.int l4)] [.int v3] g3 P
  exact sw_if_eq dX3_steps_21 (by decide) (fun q => (kt q)) (fun q => (sw_fg [true, false, true, true, false] rfl (kf q)))
theorem b_X3_steps_24 {l4 : Int32} (hP : P (.inl (some (.int l4))) h) : SW sc m_X3_steps d rc rs 24 [none, none, none, none, some (.int l4)] [] h P := by
  refine sw_iload dX3_steps_24 rfl ?_
  exact sw_ret (v := (some (.int l4))) dX3_steps_26 rt_i hP
theorem b_X3_steps_27 {r0 : Nat} {l2 : Int32} {l3 : Int32} {l4 : Int32} {v3 : Int32} {g3 : ab_H} {fs3 : List Value} (hr3 : (h)[r0]? = some (3, fs3)) (hm3 : MSE m_X3_withNeighbors d [.ref r0, .int l3] h (some (.int v3)) g3) (k : SW sc m_X3_steps (d + 1) rc rs 7 [some (.ref r0), none, some (.int l2), some (.int v3), some (.int (l4 + 1))] [] g3 P) : SW sc m_X3_steps (d + 1) rc rs 27 [some (.ref r0), none, some (.int l2), some (.int l3), some (.int l4)] [] h P := by
  refine sw_aload_n dX3_steps_27 rfl ?_
  refine sw_iload_n dX3_steps_28 rfl ?_
  refine sw_cV dX3_steps_29 lv_X3_72 hm3 hr3 rfl (by decide) rfl rfl rfl (Nat.le_of_ble_eq_true rfl) (fun _ _ => rfl) rfl ?_
  show SW sc m_X3_steps _ _ _ 32 [some (.ref r0), none, some (.int l2), some (.int l3), some (.int l4)] [.int v3] g3 P
  refine sw_istore_n dX3_steps_32 (by decide) rfl ?_
  show SW sc m_X3_steps _ _ _ 33 [some (.ref r0), none, some (.int l2), some (.int v3), some (.int l4)] [] g3 P
  refine sw_iinc (v := l4 + 1) dX3_steps_33 rfl rfl (by decide) rfl ?_
  show SW sc m_X3_steps _ _ _ 36 [some (.ref r0), none, some (.int l2), some (.int v3), some (.int (l4 + 1))] [] g3 P
  exact sw_goto dX3_steps_36 (by decide) (k)
theorem b_X3_steps_39  (hP : P (.inl (some (.int (-1)))) h) : SW sc m_X3_steps d rc rs 39 [none, none, none, none, none] [] h P := by
  refine sw_iconst (v := (-1)) dX3_steps_39 (by decide) ?_
  exact sw_ret (v := (some (.int (-1)))) dX3_steps_40 rt_i hP
theorem b_X3_eccentricity_0 {r0 : Nat} {l1 : Int32} (k : SW sc m_X3_eccentricity d rc rs 6 [some (.ref r0), none, some (.int (1 <<< (l1 &&& 31))), some (.int 0), none] [] h P) : SW sc m_X3_eccentricity d rc rs 0 [some (.ref r0), some (.int l1), none, none, none] [] h P := by
  refine sw_iconst (v := 1) dX3_eccentricity_0 (by decide) ?_
  refine sw_iload_n dX3_eccentricity_1 rfl ?_
  refine sw_ishl dX3_eccentricity_2 ?_
  refine sw_istore_n dX3_eccentricity_3 (by decide) rfl ?_
  show SW sc m_X3_eccentricity _ _ _ 4 [some (.ref r0), some (.int l1), some (.int (1 <<< (l1 &&& 31))), none, none] [] h P
  refine sw_iconst (v := 0) dX3_eccentricity_4 (by decide) ?_
  refine sw_istore_n dX3_eccentricity_5 (by decide) rfl ?_
  show SW sc m_X3_eccentricity _ _ _ 6 [some (.ref r0), some (.int l1), some (.int (1 <<< (l1 &&& 31))), some (.int 0), none] [] h P
  exact (sw_fg [false, true, false, false, false] rfl (k))
theorem b_X3_eccentricity_6 {r0 : Nat} {l2 : Int32} {l3 : Int32} {fs3 : List Value} {x3 : Int32} (hc3 : (h)[r0]? = some (3, fs3)) (hv3 : fs3[2]? = some (.int x3)) (kt : x3 ≤ l3 → SW sc m_X3_eccentricity d rc rs 38 [some (.ref r0), none, none, none, none] [] h P) (kf : ¬ (x3 ≤ l3) → SW sc m_X3_eccentricity d rc rs 14 [some (.ref r0), none, some (.int l2), some (.int l3), none] [] h P) : SW sc m_X3_eccentricity d rc rs 6 [some (.ref r0), none, some (.int l2), some (.int l3), none] [] h P := by
  refine sw_iload_n dX3_eccentricity_6 rfl ?_
  refine sw_aload_n dX3_eccentricity_7 rfl ?_
  refine sw_getf dX3_eccentricity_8 lf_X3_18 hc3 hv3 ?_
  exact sw_icmp_ge dX3_eccentricity_11 (by decide) (fun q => (sw_fg [false, false, true, true, false] rfl (kt q))) (fun q => (kf q))
theorem b_X3_eccentricity_14 {r0 : Nat} {l2 : Int32} {l3 : Int32} {v3 : Int32} {g3 : ab_H} {fs3 : List Value} (hr3 : (h)[r0]? = some (3, fs3)) (hm3 : MSE m_X3_withNeighbors d [.ref r0, .int l2] h (some (.int v3)) g3) (kt : ¬ v3 = l2 → SW sc m_X3_eccentricity (d + 1) rc rs 29 [some (.ref r0), none, none, some (.int l3), some (.int v3)] [] g3 P) (kf : v3 = l2 → SW sc m_X3_eccentricity (d + 1) rc rs 27 [none, none, none, some (.int l3), none] [] g3 P) : SW sc m_X3_eccentricity (d + 1) rc rs 14 [some (.ref r0), none, some (.int l2), some (.int l3), none] [] h P := by
  refine sw_aload_n dX3_eccentricity_14 rfl ?_
  refine sw_iload_n dX3_eccentricity_15 rfl ?_
  refine sw_cV dX3_eccentricity_16 lv_X3_72 hm3 hr3 rfl (by decide) rfl rfl rfl (Nat.le_of_ble_eq_true rfl) (fun _ _ => rfl) rfl ?_
  show SW sc m_X3_eccentricity _ _ _ 19 [some (.ref r0), none, some (.int l2), some (.int l3), none] [.int v3] g3 P
  refine sw_istore dX3_eccentricity_19 (by decide) rfl ?_
  show SW sc m_X3_eccentricity _ _ _ 21 [some (.ref r0), none, some (.int l2), some (.int l3), some (.int v3)] [] g3 P
  refine sw_iload dX3_eccentricity_21 rfl ?_
  refine sw_iload_n dX3_eccentricity_23 rfl ?_
  exact sw_icmp_ne dX3_eccentricity_24 (by decide) (fun q => (sw_fg [false, false, true, false, false] rfl (kt q))) (fun q => (sw_fg [true, false, true, false, true] rfl (kf q)))
theorem b_X3_eccentricity_27 {l3 : Int32} (hP : P (.inl (some (.int l3))) h) : SW sc m_X3_eccentricity d rc rs 27 [none, none, none, some (.int l3), none] [] h P := by
  refine sw_iload_n dX3_eccentricity_27 rfl ?_
  exact sw_ret (v := (some (.int l3))) dX3_eccentricity_28 rt_i hP
theorem b_X3_eccentricity_29 {r0 : Nat} {l3 : Int32} {l4 : Int32} (k : SW sc m_X3_eccentricity d rc rs 6 [some (.ref r0), none, some (.int l4), some (.int (l3 + 1)), none] [] h P) : SW sc m_X3_eccentricity d rc rs 29 [some (.ref r0), none, none, some (.int l3), some (.int l4)] [] h P := by
  refine sw_iload dX3_eccentricity_29 rfl ?_
  refine sw_istore_n dX3_eccentricity_31 (by decide) rfl ?_
  show SW sc m_X3_eccentricity _ _ _ 32 [some (.ref r0), none, some (.int l4), some (.int l3), some (.int l4)] [] h P
  refine sw_iinc (v := l3 + 1) dX3_eccentricity_32 rfl rfl (by decide) rfl ?_
  show SW sc m_X3_eccentricity _ _ _ 35 [some (.ref r0), none, some (.int l4), some (.int (l3 + 1)), some (.int l4)] [] h P
  exact sw_goto dX3_eccentricity_35 (by decide) (sw_fg [false, false, false, false, true] rfl (k))
theorem b_X3_eccentricity_38 {r0 : Nat} {fs2 : List Value} {x2 : Int32} (hc2 : (h)[r0]? = some (3, fs2)) (hv2 : fs2[2]? = some (.int x2)) (hP : P (.inl (some (.int (x2 - 1)))) h) : SW sc m_X3_eccentricity d rc rs 38 [some (.ref r0), none, none, none, none] [] h P := by
  refine sw_aload_n dX3_eccentricity_38 rfl ?_
  refine sw_getf dX3_eccentricity_39 lf_X3_18 hc2 hv2 ?_
  refine sw_iconst (v := 1) dX3_eccentricity_42 (by decide) ?_
  refine sw_isub dX3_eccentricity_43 ?_
  exact sw_ret (v := (some (.int (x2 - 1)))) dX3_eccentricity_44 rt_i hP
theorem b_X3_diameter_0 {r0 : Nat} {l1 : Int32} (k : SW sc m_X3_diameter d rc rs 4 [some (.ref r0), some (.int l1), some (.int 0), some (.int 0)] [] h P) : SW sc m_X3_diameter d rc rs 0 [some (.ref r0), some (.int l1), none, none] [] h P := by
  refine sw_iconst (v := 0) dX3_diameter_0 (by decide) ?_
  refine sw_istore_n dX3_diameter_1 (by decide) rfl ?_
  show SW sc m_X3_diameter _ _ _ 2 [some (.ref r0), some (.int l1), some (.int 0), none] [] h P
  refine sw_iconst (v := 0) dX3_diameter_2 (by decide) ?_
  refine sw_istore_n dX3_diameter_3 (by decide) rfl ?_
  show SW sc m_X3_diameter _ _ _ 4 [some (.ref r0), some (.int l1), some (.int 0), some (.int 0)] [] h P
  exact (k)
theorem b_X3_diameter_4 {r0 : Nat} {l1 : Int32} {l2 : Int32} {l3 : Int32} {fs3 : List Value} {x3 : Int32} (hc3 : (h)[r0]? = some (3, fs3)) (hv3 : fs3[2]? = some (.int x3)) (kt : x3 ≤ l3 → SW sc m_X3_diameter d rc rs 36 [none, none, some (.int l2), none] [] h P) (kf : ¬ (x3 ≤ l3) → SW sc m_X3_diameter d rc rs 12 [some (.ref r0), some (.int l1), some (.int l2), some (.int l3)] [] h P) : SW sc m_X3_diameter d rc rs 4 [some (.ref r0), some (.int l1), some (.int l2), some (.int l3)] [] h P := by
  refine sw_iload_n dX3_diameter_4 rfl ?_
  refine sw_aload_n dX3_diameter_5 rfl ?_
  refine sw_getf dX3_diameter_6 lf_X3_18 hc3 hv3 ?_
  exact sw_icmp_ge dX3_diameter_9 (by decide) (fun q => (sw_fg [true, true, false, true] rfl (kt q))) (fun q => (kf q))
theorem b_X3_diameter_12 {r0 : Nat} {l1 : Int32} {l2 : Int32} {l3 : Int32} {v3 : Int32} {g3 : ab_H} (hm3 : MSE m_X9_holds d [.int l1, .int l3] h (some (.int v3)) g3) (kt : v3 = 0 → SW sc m_X3_diameter (d + 1) rc rs 30 [some (.ref r0), some (.int l1), some (.int l2), some (.int l3)] [] g3 P) (kf : ¬ (v3 = 0) → SW sc m_X3_diameter (d + 1) rc rs 20 [some (.ref r0), some (.int l1), some (.int l2), some (.int l3)] [] g3 P) : SW sc m_X3_diameter (d + 1) rc rs 12 [some (.ref r0), some (.int l1), some (.int l2), some (.int l3)] [] h P := by
  refine sw_iload_n dX3_diameter_12 rfl ?_
  refine sw_iload_n dX3_diameter_13 rfl ?_
  refine sw_cS dX3_diameter_14 ls_X3_50 hm3 rfl rfl (Nat.le_of_ble_eq_true rfl) (fun _ _ => rfl) rfl ?_
  show SW sc m_X3_diameter _ _ _ 17 [some (.ref r0), some (.int l1), some (.int l2), some (.int l3)] [.int v3] g3 P
  exact sw_if_eq dX3_diameter_17 (by decide) (fun q => (kt q)) (fun q => (kf q))
theorem b_X3_diameter_20 {r0 : Nat} {l1 : Int32} {l2 : Int32} {l3 : Int32} {v4 : Int32} {g4 : ab_H} {fs4 : List Value} {v5 : Int32} {g5 : ab_H} (hr4 : (h)[r0]? = some (3, fs4)) (hm4 : MSE m_X3_eccentricity d [.ref r0, .int l3] h (some (.int v4)) g4) (hm5 : MSE m_J9_max_7cf53 d [.int l2, .int v4] g4 (some (.int v5)) g5) (k : SW sc m_X3_diameter (d + 1) rc rs 30 [some (.ref r0), some (.int l1), some (.int v5), some (.int l3)] [] g5 P) : SW sc m_X3_diameter (d + 1) rc rs 20 [some (.ref r0), some (.int l1), some (.int l2), some (.int l3)] [] h P := by
  refine sw_iload_n dX3_diameter_20 rfl ?_
  refine sw_aload_n dX3_diameter_21 rfl ?_
  refine sw_iload_n dX3_diameter_22 rfl ?_
  refine sw_cV dX3_diameter_23 lv_X3_84 hm4 hr4 rfl (by decide) rfl rfl rfl (Nat.le_of_ble_eq_true rfl) (fun _ _ => rfl) rfl ?_
  show SW sc m_X3_diameter _ _ _ 26 [some (.ref r0), some (.int l1), some (.int l2), some (.int l3)] [.int v4, .int l2] g4 P
  refine sw_cS dX3_diameter_26 ls_X3_87 hm5 rfl rfl (Nat.le_of_ble_eq_true rfl) (fun _ _ => rfl) rfl ?_
  show SW sc m_X3_diameter _ _ _ 29 [some (.ref r0), some (.int l1), some (.int l2), some (.int l3)] [.int v5] g5 P
  refine sw_istore_n dX3_diameter_29 (by decide) rfl ?_
  show SW sc m_X3_diameter _ _ _ 30 [some (.ref r0), some (.int l1), some (.int v5), some (.int l3)] [] g5 P
  exact (k)
theorem b_X3_diameter_30 {r0 : Nat} {l1 : Int32} {l2 : Int32} {l3 : Int32} (k : SW sc m_X3_diameter d rc rs 4 [some (.ref r0), some (.int l1), some (.int l2), some (.int (l3 + 1))] [] h P) : SW sc m_X3_diameter d rc rs 30 [some (.ref r0), some (.int l1), some (.int l2), some (.int l3)] [] h P := by
  refine sw_iinc (v := l3 + 1) dX3_diameter_30 rfl rfl (by decide) rfl ?_
  show SW sc m_X3_diameter _ _ _ 33 [some (.ref r0), some (.int l1), some (.int l2), some (.int (l3 + 1))] [] h P
  exact sw_goto dX3_diameter_33 (by decide) (k)
theorem b_X3_diameter_36 {l2 : Int32} (hP : P (.inl (some (.int l2))) h) : SW sc m_X3_diameter d rc rs 36 [none, none, some (.int l2), none] [] h P := by
  refine sw_iload_n dX3_diameter_36 rfl ?_
  exact sw_ret (v := (some (.int l2))) dX3_diameter_37 rt_i hP
theorem b_X3_pathSet_0 {r0 : Nat} {l1 : Int32} {l2 : Int32} {v4 : Int32} {g4 : ab_H} {fs4 : List Value} (hr4 : (h)[r0]? = some (3, fs4)) (hm4 : MSE m_X3_steps d [.ref r0, .int l1, .int l2] h (some (.int v4)) g4) (k : SW sc m_X3_pathSet (d + 1) rc rs 13 [some (.ref r0), some (.int l1), some (.int l2), some (.int v4), some (.int 0), some (.int 0)] [] g4 P) : SW sc m_X3_pathSet (d + 1) rc rs 0 [some (.ref r0), some (.int l1), some (.int l2), none, none, none] [] h P := by
  refine sw_aload_n dX3_pathSet_0 rfl ?_
  refine sw_iload_n dX3_pathSet_1 rfl ?_
  refine sw_iload_n dX3_pathSet_2 rfl ?_
  refine sw_cV dX3_pathSet_3 lv_X3_92 hm4 hr4 rfl (by decide) rfl rfl rfl (Nat.le_of_ble_eq_true rfl) (fun _ _ => rfl) rfl ?_
  show SW sc m_X3_pathSet _ _ _ 6 [some (.ref r0), some (.int l1), some (.int l2), none, none, none] [.int v4] g4 P
  refine sw_istore_n dX3_pathSet_6 (by decide) rfl ?_
  show SW sc m_X3_pathSet _ _ _ 7 [some (.ref r0), some (.int l1), some (.int l2), some (.int v4), none, none] [] g4 P
  refine sw_iconst (v := 0) dX3_pathSet_7 (by decide) ?_
  refine sw_istore dX3_pathSet_8 (by decide) rfl ?_
  show SW sc m_X3_pathSet _ _ _ 10 [some (.ref r0), some (.int l1), some (.int l2), some (.int v4), some (.int 0), none] [] g4 P
  refine sw_iconst (v := 0) dX3_pathSet_10 (by decide) ?_
  refine sw_istore dX3_pathSet_11 (by decide) rfl ?_
  show SW sc m_X3_pathSet _ _ _ 13 [some (.ref r0), some (.int l1), some (.int l2), some (.int v4), some (.int 0), some (.int 0)] [] g4 P
  exact (k)
theorem b_X3_pathSet_13 {r0 : Nat} {l1 : Int32} {l2 : Int32} {l3 : Int32} {l4 : Int32} {l5 : Int32} {fs3 : List Value} {x3 : Int32} (hc3 : (h)[r0]? = some (3, fs3)) (hv3 : fs3[2]? = some (.int x3)) (kt : x3 ≤ l5 → SW sc m_X3_pathSet d rc rs 61 [none, none, none, none, some (.int l4), none] [] h P) (kf : ¬ (x3 ≤ l5) → SW sc m_X3_pathSet d rc rs 22 [some (.ref r0), some (.int l1), some (.int l2), some (.int l3), some (.int l4), some (.int l5)] [] h P) : SW sc m_X3_pathSet d rc rs 13 [some (.ref r0), some (.int l1), some (.int l2), some (.int l3), some (.int l4), some (.int l5)] [] h P := by
  refine sw_iload dX3_pathSet_13 rfl ?_
  refine sw_aload_n dX3_pathSet_15 rfl ?_
  refine sw_getf dX3_pathSet_16 lf_X3_18 hc3 hv3 ?_
  exact sw_icmp_ge dX3_pathSet_19 (by decide) (fun q => (sw_fg [true, true, true, true, false, true] rfl (kt q))) (fun q => (kf q))
theorem b_X3_pathSet_22 {r0 : Nat} {l1 : Int32} {l2 : Int32} {l3 : Int32} {l4 : Int32} {l5 : Int32} (kt : l3 = (-1) → SW sc m_X3_pathSet d rc rs 61 [none, none, none, none, some (.int l4), none] [] h P) (kf : ¬ (l3 = (-1)) → SW sc m_X3_pathSet d rc rs 27 [some (.ref r0), some (.int l1), some (.int l2), some (.int l3), some (.int l4), some (.int l5)] [] h P) : SW sc m_X3_pathSet d rc rs 22 [some (.ref r0), some (.int l1), some (.int l2), some (.int l3), some (.int l4), some (.int l5)] [] h P := by
  refine sw_iload_n dX3_pathSet_22 rfl ?_
  refine sw_iconst (v := (-1)) dX3_pathSet_23 (by decide) ?_
  exact sw_icmp_eq dX3_pathSet_24 (by decide) (fun q => (sw_fg [true, true, true, true, false, true] rfl (kt q))) (fun q => (kf q))
theorem b_X3_pathSet_27 {r0 : Nat} {l1 : Int32} {l2 : Int32} {l3 : Int32} {l4 : Int32} {l5 : Int32} {v4 : Int32} {g4 : ab_H} {fs4 : List Value} {v8 : Int32} {g8 : ab_H} {fs8 : List Value} (hr4 : (h)[r0]? = some (3, fs4)) (hm4 : MSE m_X3_steps d [.ref r0, .int l1, .int l5] h (some (.int v4)) g4) (hr8 : (g4)[r0]? = some (3, fs8)) (hm8 : MSE m_X3_steps d [.ref r0, .int l5, .int l2] g4 (some (.int v8)) g8) (kt : ¬ (v4 + v8) = l3 → SW sc m_X3_pathSet (d + 1) rc rs 55 [some (.ref r0), some (.int l1), some (.int l2), some (.int l3), some (.int l4), some (.int l5)] [] g8 P) (kf : (v4 + v8) = l3 → SW sc m_X3_pathSet (d + 1) rc rs 46 [some (.ref r0), some (.int l1), some (.int l2), some (.int l3), some (.int l4), some (.int l5)] [] g8 P) : SW sc m_X3_pathSet (d + 1) rc rs 27 [some (.ref r0), some (.int l1), some (.int l2), some (.int l3), some (.int l4), some (.int l5)] [] h P := by
  refine sw_aload_n dX3_pathSet_27 rfl ?_
  refine sw_iload_n dX3_pathSet_28 rfl ?_
  refine sw_iload dX3_pathSet_29 rfl ?_
  refine sw_cV dX3_pathSet_31 lv_X3_92 hm4 hr4 rfl (by decide) rfl rfl rfl (Nat.le_of_ble_eq_true rfl) (fun _ _ => rfl) rfl ?_
  show SW sc m_X3_pathSet _ _ _ 34 [some (.ref r0), some (.int l1), some (.int l2), some (.int l3), some (.int l4), some (.int l5)] [.int v4] g4 P
  refine sw_aload_n dX3_pathSet_34 rfl ?_
  refine sw_iload dX3_pathSet_35 rfl ?_
  refine sw_iload_n dX3_pathSet_37 rfl ?_
  refine sw_cV dX3_pathSet_38 lv_X3_92 hm8 hr8 rfl (by decide) rfl rfl rfl (Nat.le_of_ble_eq_true rfl) (fun _ _ => rfl) rfl ?_
  show SW sc m_X3_pathSet _ _ _ 41 [some (.ref r0), some (.int l1), some (.int l2), some (.int l3), some (.int l4), some (.int l5)] [.int v8, .int v4] g8 P
  refine sw_iadd dX3_pathSet_41 ?_
  refine sw_iload_n dX3_pathSet_42 rfl ?_
  exact sw_icmp_ne dX3_pathSet_43 (by decide) (fun q => (kt q)) (fun q => (kf q))
theorem b_X3_pathSet_46 {r0 : Nat} {l1 : Int32} {l2 : Int32} {l3 : Int32} {l4 : Int32} {l5 : Int32} (k : SW sc m_X3_pathSet d rc rs 55 [some (.ref r0), some (.int l1), some (.int l2), some (.int l3), some (.int (l4 ||| (1 <<< (l5 &&& 31)))), some (.int l5)] [] h P) : SW sc m_X3_pathSet d rc rs 46 [some (.ref r0), some (.int l1), some (.int l2), some (.int l3), some (.int l4), some (.int l5)] [] h P := by
  refine sw_iload dX3_pathSet_46 rfl ?_
  refine sw_iconst (v := 1) dX3_pathSet_48 (by decide) ?_
  refine sw_iload dX3_pathSet_49 rfl ?_
  refine sw_ishl dX3_pathSet_51 ?_
  refine sw_ior dX3_pathSet_52 ?_
  refine sw_istore dX3_pathSet_53 (by decide) rfl ?_
  show SW sc m_X3_pathSet _ _ _ 55 [some (.ref r0), some (.int l1), some (.int l2), some (.int l3), some (.int (l4 ||| (1 <<< (l5 &&& 31)))), some (.int l5)] [] h P
  exact (k)
theorem b_X3_pathSet_55 {r0 : Nat} {l1 : Int32} {l2 : Int32} {l3 : Int32} {l4 : Int32} {l5 : Int32} (k : SW sc m_X3_pathSet d rc rs 13 [some (.ref r0), some (.int l1), some (.int l2), some (.int l3), some (.int l4), some (.int (l5 + 1))] [] h P) : SW sc m_X3_pathSet d rc rs 55 [some (.ref r0), some (.int l1), some (.int l2), some (.int l3), some (.int l4), some (.int l5)] [] h P := by
  refine sw_iinc (v := l5 + 1) dX3_pathSet_55 rfl rfl (by decide) rfl ?_
  show SW sc m_X3_pathSet _ _ _ 58 [some (.ref r0), some (.int l1), some (.int l2), some (.int l3), some (.int l4), some (.int (l5 + 1))] [] h P
  exact sw_goto dX3_pathSet_58 (by decide) (k)
theorem b_X3_pathSet_61 {l4 : Int32} (hP : P (.inl (some (.int l4))) h) : SW sc m_X3_pathSet d rc rs 61 [none, none, none, none, some (.int l4), none] [] h P := by
  refine sw_iload dX3_pathSet_61 rfl ?_
  exact sw_ret (v := (some (.int l4))) dX3_pathSet_63 rt_i hP
theorem b_X3_pathVertex_0 {r0 : Nat} {l1 : Int32} {l2 : Int32} {l3 : Int32} {v4 : Int32} {g4 : ab_H} {fs4 : List Value} (hr4 : (h)[r0]? = some (3, fs4)) (hm4 : MSE m_X3_pathSet d [.ref r0, .int l1, .int l2] h (some (.int v4)) g4) (k : SW sc m_X3_pathVertex (d + 1) rc rs 11 [some (.ref r0), some (.int l1), none, some (.int l3), some (.int v4), some (.int 0)] [] g4 P) : SW sc m_X3_pathVertex (d + 1) rc rs 0 [some (.ref r0), some (.int l1), some (.int l2), some (.int l3), none, none] [] h P := by
  refine sw_aload_n dX3_pathVertex_0 rfl ?_
  refine sw_iload_n dX3_pathVertex_1 rfl ?_
  refine sw_iload_n dX3_pathVertex_2 rfl ?_
  refine sw_cV dX3_pathVertex_3 lv_X3_95 hm4 hr4 rfl (by decide) rfl rfl rfl (Nat.le_of_ble_eq_true rfl) (fun _ _ => rfl) rfl ?_
  show SW sc m_X3_pathVertex _ _ _ 6 [some (.ref r0), some (.int l1), some (.int l2), some (.int l3), none, none] [.int v4] g4 P
  refine sw_istore dX3_pathVertex_6 (by decide) rfl ?_
  show SW sc m_X3_pathVertex _ _ _ 8 [some (.ref r0), some (.int l1), some (.int l2), some (.int l3), some (.int v4), none] [] g4 P
  refine sw_iconst (v := 0) dX3_pathVertex_8 (by decide) ?_
  refine sw_istore dX3_pathVertex_9 (by decide) rfl ?_
  show SW sc m_X3_pathVertex _ _ _ 11 [some (.ref r0), some (.int l1), some (.int l2), some (.int l3), some (.int v4), some (.int 0)] [] g4 P
  exact (sw_fg [false, false, true, false, false, false] rfl (k))
theorem b_X3_pathVertex_11 {r0 : Nat} {l1 : Int32} {l3 : Int32} {l4 : Int32} {l5 : Int32} {fs3 : List Value} {x3 : Int32} (hc3 : (h)[r0]? = some (3, fs3)) (hv3 : fs3[2]? = some (.int x3)) (kt : x3 ≤ l5 → SW sc m_X3_pathVertex d rc rs 50 [none, none, none, none, none, none] [] h P) (kf : ¬ (x3 ≤ l5) → SW sc m_X3_pathVertex d rc rs 20 [some (.ref r0), some (.int l1), none, some (.int l3), some (.int l4), some (.int l5)] [] h P) : SW sc m_X3_pathVertex d rc rs 11 [some (.ref r0), some (.int l1), none, some (.int l3), some (.int l4), some (.int l5)] [] h P := by
  refine sw_iload dX3_pathVertex_11 rfl ?_
  refine sw_aload_n dX3_pathVertex_13 rfl ?_
  refine sw_getf dX3_pathVertex_14 lf_X3_18 hc3 hv3 ?_
  exact sw_icmp_ge dX3_pathVertex_17 (by decide) (fun q => (sw_fg [true, true, false, true, true, true] rfl (kt q))) (fun q => (kf q))
theorem b_X3_pathVertex_20 {r0 : Nat} {l1 : Int32} {l3 : Int32} {l4 : Int32} {l5 : Int32} {v3 : Int32} {g3 : ab_H} (hm3 : MSE m_X9_holds d [.int l4, .int l5] h (some (.int v3)) g3) (kt : v3 = 0 → SW sc m_X3_pathVertex (d + 1) rc rs 44 [some (.ref r0), some (.int l1), none, some (.int l3), some (.int l4), some (.int l5)] [] g3 P) (kf : ¬ (v3 = 0) → SW sc m_X3_pathVertex (d + 1) rc rs 30 [some (.ref r0), some (.int l1), none, some (.int l3), some (.int l4), some (.int l5)] [] g3 P) : SW sc m_X3_pathVertex (d + 1) rc rs 20 [some (.ref r0), some (.int l1), none, some (.int l3), some (.int l4), some (.int l5)] [] h P := by
  refine sw_iload dX3_pathVertex_20 rfl ?_
  refine sw_iload dX3_pathVertex_22 rfl ?_
  refine sw_cS dX3_pathVertex_24 ls_X3_50 hm3 rfl rfl (Nat.le_of_ble_eq_true rfl) (fun _ _ => rfl) rfl ?_
  show SW sc m_X3_pathVertex _ _ _ 27 [some (.ref r0), some (.int l1), none, some (.int l3), some (.int l4), some (.int l5)] [.int v3] g3 P
  exact sw_if_eq dX3_pathVertex_27 (by decide) (fun q => (kt q)) (fun q => (kf q))
theorem b_X3_pathVertex_30 {r0 : Nat} {l1 : Int32} {l3 : Int32} {l4 : Int32} {l5 : Int32} {v4 : Int32} {g4 : ab_H} {fs4 : List Value} (hr4 : (h)[r0]? = some (3, fs4)) (hm4 : MSE m_X3_steps d [.ref r0, .int l1, .int l5] h (some (.int v4)) g4) (kt : ¬ v4 = l3 → SW sc m_X3_pathVertex (d + 1) rc rs 44 [some (.ref r0), some (.int l1), none, some (.int l3), some (.int l4), some (.int l5)] [] g4 P) (kf : v4 = l3 → SW sc m_X3_pathVertex (d + 1) rc rs 41 [none, none, none, none, none, some (.int l5)] [] g4 P) : SW sc m_X3_pathVertex (d + 1) rc rs 30 [some (.ref r0), some (.int l1), none, some (.int l3), some (.int l4), some (.int l5)] [] h P := by
  refine sw_aload_n dX3_pathVertex_30 rfl ?_
  refine sw_iload_n dX3_pathVertex_31 rfl ?_
  refine sw_iload dX3_pathVertex_32 rfl ?_
  refine sw_cV dX3_pathVertex_34 lv_X3_92 hm4 hr4 rfl (by decide) rfl rfl rfl (Nat.le_of_ble_eq_true rfl) (fun _ _ => rfl) rfl ?_
  show SW sc m_X3_pathVertex _ _ _ 37 [some (.ref r0), some (.int l1), none, some (.int l3), some (.int l4), some (.int l5)] [.int v4] g4 P
  refine sw_iload_n dX3_pathVertex_37 rfl ?_
  exact sw_icmp_ne dX3_pathVertex_38 (by decide) (fun q => (kt q)) (fun q => (sw_fg [true, true, false, true, true, false] rfl (kf q)))
theorem b_X3_pathVertex_41 {l5 : Int32} (hP : P (.inl (some (.int l5))) h) : SW sc m_X3_pathVertex d rc rs 41 [none, none, none, none, none, some (.int l5)] [] h P := by
  refine sw_iload dX3_pathVertex_41 rfl ?_
  exact sw_ret (v := (some (.int l5))) dX3_pathVertex_43 rt_i hP
theorem b_X3_pathVertex_44 {r0 : Nat} {l1 : Int32} {l3 : Int32} {l4 : Int32} {l5 : Int32} (k : SW sc m_X3_pathVertex d rc rs 11 [some (.ref r0), some (.int l1), none, some (.int l3), some (.int l4), some (.int (l5 + 1))] [] h P) : SW sc m_X3_pathVertex d rc rs 44 [some (.ref r0), some (.int l1), none, some (.int l3), some (.int l4), some (.int l5)] [] h P := by
  refine sw_iinc (v := l5 + 1) dX3_pathVertex_44 rfl rfl (by decide) rfl ?_
  show SW sc m_X3_pathVertex _ _ _ 47 [some (.ref r0), some (.int l1), none, some (.int l3), some (.int l4), some (.int (l5 + 1))] [] h P
  exact sw_goto dX3_pathVertex_47 (by decide) (k)
theorem b_X3_pathVertex_50  (hP : P (.inl (some (.int (-1)))) h) : SW sc m_X3_pathVertex d rc rs 50 [none, none, none, none, none, none] [] h P := by
  refine sw_iconst (v := (-1)) dX3_pathVertex_50 (by decide) ?_
  exact sw_ret (v := (some (.int (-1)))) dX3_pathVertex_51 rt_i hP
theorem b_X3_greatestPart_0 {r0 : Nat} {l1 : Int32} {l2 : Int32} {v2 : Int32} {g2 : ab_H} {fs2 : List Value} {v4 : Int32} {g4 : ab_H} (hr2 : (h)[r0]? = some (3, fs2)) (hm2 : MSE m_X3_all d [.ref r0] h (some (.int v2)) g2) (hm4 : MSE m_X9_without d [.int v2, .int l1] g2 (some (.int v4)) g4) (k : SW sc m_X3_greatestPart (d + 1) rc rs 15 [some (.ref r0), some (.int l1), some (.int l2), some (.int v4), some (.int 0), some (.int 0), none] [] g4 P) : SW sc m_X3_greatestPart (d + 1) rc rs 0 [some (.ref r0), some (.int l1), some (.int l2), none, none, none, none] [] h P := by
  refine sw_aload_n dX3_greatestPart_0 rfl ?_
  refine sw_cV dX3_greatestPart_1 lv_X3_61 hm2 hr2 rfl (by decide) rfl rfl rfl (Nat.le_of_ble_eq_true rfl) (fun _ _ => rfl) rfl ?_
  show SW sc m_X3_greatestPart _ _ _ 4 [some (.ref r0), some (.int l1), some (.int l2), none, none, none, none] [.int v2] g2 P
  refine sw_iload_n dX3_greatestPart_4 rfl ?_
  refine sw_cS dX3_greatestPart_5 ls_X3_54 hm4 rfl rfl (Nat.le_of_ble_eq_true rfl) (fun _ _ => rfl) rfl ?_
  show SW sc m_X3_greatestPart _ _ _ 8 [some (.ref r0), some (.int l1), some (.int l2), none, none, none, none] [.int v4] g4 P
  refine sw_istore_n dX3_greatestPart_8 (by decide) rfl ?_
  show SW sc m_X3_greatestPart _ _ _ 9 [some (.ref r0), some (.int l1), some (.int l2), some (.int v4), none, none, none] [] g4 P
  refine sw_iconst (v := 0) dX3_greatestPart_9 (by decide) ?_
  refine sw_istore dX3_greatestPart_10 (by decide) rfl ?_
  show SW sc m_X3_greatestPart _ _ _ 12 [some (.ref r0), some (.int l1), some (.int l2), some (.int v4), some (.int 0), none, none] [] g4 P
  refine sw_iconst (v := 0) dX3_greatestPart_12 (by decide) ?_
  refine sw_istore dX3_greatestPart_13 (by decide) rfl ?_
  show SW sc m_X3_greatestPart _ _ _ 15 [some (.ref r0), some (.int l1), some (.int l2), some (.int v4), some (.int 0), some (.int 0), none] [] g4 P
  exact (k)
theorem b_X3_greatestPart_15 {r0 : Nat} {l1 : Int32} {l2 : Int32} {l3 : Int32} {l4 : Int32} {l5 : Int32} {fs3 : List Value} {x3 : Int32} (hc3 : (h)[r0]? = some (3, fs3)) (hv3 : fs3[2]? = some (.int x3)) (kt : x3 ≤ l5 → SW sc m_X3_greatestPart d rc rs 74 [none, none, none, none, some (.int l4), none, none] [] h P) (kf : ¬ (x3 ≤ l5) → SW sc m_X3_greatestPart d rc rs 24 [some (.ref r0), some (.int l1), some (.int l2), some (.int l3), some (.int l4), some (.int l5), none] [] h P) : SW sc m_X3_greatestPart d rc rs 15 [some (.ref r0), some (.int l1), some (.int l2), some (.int l3), some (.int l4), some (.int l5), none] [] h P := by
  refine sw_iload dX3_greatestPart_15 rfl ?_
  refine sw_aload_n dX3_greatestPart_17 rfl ?_
  refine sw_getf dX3_greatestPart_18 lf_X3_18 hc3 hv3 ?_
  exact sw_icmp_ge dX3_greatestPart_21 (by decide) (fun q => (sw_fg [true, true, true, true, false, true, false] rfl (kt q))) (fun q => (kf q))
theorem b_X3_greatestPart_24 {r0 : Nat} {l1 : Int32} {l2 : Int32} {l3 : Int32} {l4 : Int32} {l5 : Int32} {v4 : Int32} {g4 : ab_H} {fs4 : List Value} (hr4 : (h)[r0]? = some (3, fs4)) (hm4 : MSE m_X3_hasEdge d [.ref r0, .int l1, .int l5] h (some (.int v4)) g4) (kt : v4 = 0 → SW sc m_X3_greatestPart (d + 1) rc rs 68 [some (.ref r0), some (.int l1), some (.int l2), some (.int l3), some (.int l4), some (.int l5), none] [] g4 P) (kf : ¬ (v4 = 0) → SW sc m_X3_greatestPart (d + 1) rc rs 34 [some (.ref r0), some (.int l1), some (.int l2), some (.int l3), some (.int l4), some (.int l5), none] [] g4 P) : SW sc m_X3_greatestPart (d + 1) rc rs 24 [some (.ref r0), some (.int l1), some (.int l2), some (.int l3), some (.int l4), some (.int l5), none] [] h P := by
  refine sw_aload_n dX3_greatestPart_24 rfl ?_
  refine sw_iload_n dX3_greatestPart_25 rfl ?_
  refine sw_iload dX3_greatestPart_26 rfl ?_
  refine sw_cV dX3_greatestPart_28 lv_X3_98 hm4 hr4 rfl (by decide) rfl rfl rfl (Nat.le_of_ble_eq_true rfl) (fun _ _ => rfl) rfl ?_
  show SW sc m_X3_greatestPart _ _ _ 31 [some (.ref r0), some (.int l1), some (.int l2), some (.int l3), some (.int l4), some (.int l5), none] [.int v4] g4 P
  exact sw_if_eq dX3_greatestPart_31 (by decide) (fun q => (kt q)) (fun q => (kf q))
theorem b_X3_greatestPart_34 {r0 : Nat} {l1 : Int32} {l2 : Int32} {l3 : Int32} {l4 : Int32} {l5 : Int32} {v4 : Int32} {g4 : ab_H} {fs4 : List Value} (hr4 : (h)[r0]? = some (3, fs4)) (hm4 : MSE m_X3_reachable d [.ref r0, .int l5, .int l3] h (some (.int v4)) g4) (kt : l2 = 0 → SW sc m_X3_greatestPart (d + 1) rc rs 58 [some (.ref r0), some (.int l1), some (.int l2), some (.int l3), none, some (.int l5), some (.int v4)] [.int l4] g4 P) (kf : ¬ (l2 = 0) → SW sc m_X3_greatestPart (d + 1) rc rs 49 [some (.ref r0), some (.int l1), some (.int l2), some (.int l3), none, some (.int l5), some (.int v4)] [.int l4] g4 P) : SW sc m_X3_greatestPart (d + 1) rc rs 34 [some (.ref r0), some (.int l1), some (.int l2), some (.int l3), some (.int l4), some (.int l5), none] [] h P := by
  refine sw_aload_n dX3_greatestPart_34 rfl ?_
  refine sw_iload dX3_greatestPart_35 rfl ?_
  refine sw_iload_n dX3_greatestPart_37 rfl ?_
  refine sw_cV dX3_greatestPart_38 lv_X3_75 hm4 hr4 rfl (by decide) rfl rfl rfl (Nat.le_of_ble_eq_true rfl) (fun _ _ => rfl) rfl ?_
  show SW sc m_X3_greatestPart _ _ _ 41 [some (.ref r0), some (.int l1), some (.int l2), some (.int l3), some (.int l4), some (.int l5), none] [.int v4] g4 P
  refine sw_istore dX3_greatestPart_41 (by decide) rfl ?_
  show SW sc m_X3_greatestPart _ _ _ 43 [some (.ref r0), some (.int l1), some (.int l2), some (.int l3), some (.int l4), some (.int l5), some (.int v4)] [] g4 P
  refine sw_iload dX3_greatestPart_43 rfl ?_
  refine sw_iload_n dX3_greatestPart_45 rfl ?_
  exact sw_if_eq dX3_greatestPart_46 (by decide) (fun q => (sw_fg [false, false, false, false, true, false, false] rfl (kt q))) (fun q => (sw_fg [false, false, false, false, true, false, false] rfl (kf q)))
theorem b_X3_greatestPart_49 {r0 : Nat} {l1 : Int32} {l2 : Int32} {l3 : Int32} {l5 : Int32} {l6 : Int32} {s0 : Int32} {v3 : Int32} {g3 : ab_H} {fs3 : List Value} (hr3 : (h)[r0]? = some (3, fs3)) (hm3 : MSE m_X3_weightOfSet d [.ref r0, .int l6] h (some (.int v3)) g3) (k : SW sc m_X3_greatestPart (d + 1) rc rs 63 [some (.ref r0), some (.int l1), some (.int l2), some (.int l3), none, some (.int l5), none] [.int v3, .int s0] g3 P) : SW sc m_X3_greatestPart (d + 1) rc rs 49 [some (.ref r0), some (.int l1), some (.int l2), some (.int l3), none, some (.int l5), some (.int l6)] [.int s0] h P := by
  refine sw_aload_n dX3_greatestPart_49 rfl ?_
  refine sw_iload dX3_greatestPart_50 rfl ?_
  refine sw_cV dX3_greatestPart_52 lv_X3_101 hm3 hr3 rfl (by decide) rfl rfl rfl (Nat.le_of_ble_eq_true rfl) (fun _ _ => rfl) rfl ?_
  show SW sc m_X3_greatestPart _ _ _ 55 [some (.ref r0), some (.int l1), some (.int l2), some (.int l3), none, some (.int l5), some (.int l6)] [.int v3, .int s0] g3 P
  exact sw_goto dX3_greatestPart_55 (by decide) (sw_fg [false, false, false, false, false, false, true] rfl (k))
theorem b_X3_greatestPart_58 {r0 : Nat} {l1 : Int32} {l2 : Int32} {l3 : Int32} {l5 : Int32} {l6 : Int32} {s0 : Int32} {v2 : Int32} {g2 : ab_H} (hm2 : MSE m_J6_bitCount_0f7a4 d [.int l6] h (some (.int v2)) g2) (k : SW sc m_X3_greatestPart (d + 1) rc rs 63 [some (.ref r0), some (.int l1), some (.int l2), some (.int l3), none, some (.int l5), none] [.int v2, .int s0] g2 P) : SW sc m_X3_greatestPart (d + 1) rc rs 58 [some (.ref r0), some (.int l1), some (.int l2), some (.int l3), none, some (.int l5), some (.int l6)] [.int s0] h P := by
  refine sw_iload dX3_greatestPart_58 rfl ?_
  refine sw_cS dX3_greatestPart_60 ls_X3_37 hm2 rfl rfl (Nat.le_of_ble_eq_true rfl) (fun _ _ => rfl) rfl ?_
  show SW sc m_X3_greatestPart _ _ _ 63 [some (.ref r0), some (.int l1), some (.int l2), some (.int l3), none, some (.int l5), some (.int l6)] [.int v2, .int s0] g2 P
  exact (sw_fg [false, false, false, false, false, false, true] rfl (k))
theorem b_X3_greatestPart_63 {r0 : Nat} {l1 : Int32} {l2 : Int32} {l3 : Int32} {l5 : Int32} {s0 : Int32} {s1 : Int32} {v1 : Int32} {g1 : ab_H} (hm1 : MSE m_J9_max_7cf53 d [.int s0, .int s1] h (some (.int v1)) g1) (k : SW sc m_X3_greatestPart (d + 1) rc rs 68 [some (.ref r0), some (.int l1), some (.int l2), some (.int l3), some (.int v1), some (.int l5), none] [] g1 P) : SW sc m_X3_greatestPart (d + 1) rc rs 63 [some (.ref r0), some (.int l1), some (.int l2), some (.int l3), none, some (.int l5), none] [.int s1, .int s0] h P := by
  refine sw_cS dX3_greatestPart_63 ls_X3_87 hm1 rfl rfl (Nat.le_of_ble_eq_true rfl) (fun _ _ => rfl) rfl ?_
  show SW sc m_X3_greatestPart _ _ _ 66 [some (.ref r0), some (.int l1), some (.int l2), some (.int l3), none, some (.int l5), none] [.int v1] g1 P
  refine sw_istore dX3_greatestPart_66 (by decide) rfl ?_
  show SW sc m_X3_greatestPart _ _ _ 68 [some (.ref r0), some (.int l1), some (.int l2), some (.int l3), some (.int v1), some (.int l5), none] [] g1 P
  exact (k)
theorem b_X3_greatestPart_68 {r0 : Nat} {l1 : Int32} {l2 : Int32} {l3 : Int32} {l4 : Int32} {l5 : Int32} (k : SW sc m_X3_greatestPart d rc rs 15 [some (.ref r0), some (.int l1), some (.int l2), some (.int l3), some (.int l4), some (.int (l5 + 1)), none] [] h P) : SW sc m_X3_greatestPart d rc rs 68 [some (.ref r0), some (.int l1), some (.int l2), some (.int l3), some (.int l4), some (.int l5), none] [] h P := by
  refine sw_iinc (v := l5 + 1) dX3_greatestPart_68 rfl rfl (by decide) rfl ?_
  show SW sc m_X3_greatestPart _ _ _ 71 [some (.ref r0), some (.int l1), some (.int l2), some (.int l3), some (.int l4), some (.int (l5 + 1)), none] [] h P
  exact sw_goto dX3_greatestPart_71 (by decide) (k)
theorem b_X3_greatestPart_74 {l4 : Int32} (hP : P (.inl (some (.int l4))) h) : SW sc m_X3_greatestPart d rc rs 74 [none, none, none, none, some (.int l4), none, none] [] h P := by
  refine sw_iload dX3_greatestPart_74 rfl ?_
  exact sw_ret (v := (some (.int l4))) dX3_greatestPart_76 rt_i hP
theorem b_X3_measure_0 {r0 : Nat} {l1 : Int32} {l2 : Int32} (kt : ¬ l2 = 0 → SW sc m_X3_measure d rc rs 12 [some (.ref r0), some (.int l1), some (.int l2)] [] h P) (kf : l2 = 0 → SW sc m_X3_measure d rc rs 4 [some (.ref r0), some (.int l1), none] [] h P) : SW sc m_X3_measure d rc rs 0 [some (.ref r0), some (.int l1), some (.int l2)] [] h P := by
  refine sw_iload_n dX3_measure_0 rfl ?_
  exact sw_if_ne dX3_measure_1 (by decide) (fun q => (kt q)) (fun q => (sw_fg [false, false, true] rfl (kf q)))
theorem b_X3_measure_4 {r0 : Nat} {l1 : Int32} {v3 : Int32} {g3 : ab_H} {fs3 : List Value} (hr3 : (h)[r0]? = some (3, fs3)) (hm3 : MSE m_X3_eccentricity d [.ref r0, .int l1] h (some (.int v3)) g3) (k : SW sc m_X3_measure (d + 1) rc rs 27 [none, none, none] [.int v3] g3 P) : SW sc m_X3_measure (d + 1) rc rs 4 [some (.ref r0), some (.int l1), none] [] h P := by
  refine sw_aload_n dX3_measure_4 rfl ?_
  refine sw_iload_n dX3_measure_5 rfl ?_
  refine sw_cV dX3_measure_6 lv_X3_84 hm3 hr3 rfl (by decide) rfl rfl rfl (Nat.le_of_ble_eq_true rfl) (fun _ _ => rfl) rfl ?_
  show SW sc m_X3_measure _ _ _ 9 [some (.ref r0), some (.int l1), none] [.int v3] g3 P
  exact sw_goto dX3_measure_9 (by decide) (sw_fg [true, true, false] rfl (k))
theorem b_X3_measure_12 {r0 : Nat} {l1 : Int32} {l2 : Int32} (kt : ¬ l2 = 2 → SW sc m_X3_measure d rc rs 23 [none, none, none] [.int l1, .ref r0] h P) (kf : l2 = 2 → SW sc m_X3_measure d rc rs 19 [none, none, none] [.int l1, .ref r0] h P) : SW sc m_X3_measure d rc rs 12 [some (.ref r0), some (.int l1), some (.int l2)] [] h P := by
  refine sw_aload_n dX3_measure_12 rfl ?_
  refine sw_iload_n dX3_measure_13 rfl ?_
  refine sw_iload_n dX3_measure_14 rfl ?_
  refine sw_iconst (v := 2) dX3_measure_15 (by decide) ?_
  exact sw_icmp_ne dX3_measure_16 (by decide) (fun q => (sw_fg [true, true, true] rfl (kt q))) (fun q => (sw_fg [true, true, true] rfl (kf q)))
theorem b_X3_measure_19 {q0 : Nat} {s1 : Int32} (k : SW sc m_X3_measure d rc rs 24 [none, none, none] [.int 1, .int s1, .ref q0] h P) : SW sc m_X3_measure d rc rs 19 [none, none, none] [.int s1, .ref q0] h P := by
  refine sw_iconst (v := 1) dX3_measure_19 (by decide) ?_
  exact sw_goto dX3_measure_20 (by decide) (k)
theorem b_X3_measure_23 {q0 : Nat} {s1 : Int32} (k : SW sc m_X3_measure d rc rs 24 [none, none, none] [.int 0, .int s1, .ref q0] h P) : SW sc m_X3_measure d rc rs 23 [none, none, none] [.int s1, .ref q0] h P := by
  refine sw_iconst (v := 0) dX3_measure_23 (by decide) ?_
  exact (k)
theorem b_X3_measure_24 {q0 : Nat} {s1 : Int32} {s2 : Int32} {v1 : Int32} {g1 : ab_H} {fs1 : List Value} (hr1 : (h)[q0]? = some (3, fs1)) (hm1 : MSE m_X3_greatestPart d [.ref q0, .int s1, .int s2] h (some (.int v1)) g1) (k : SW sc m_X3_measure (d + 1) rc rs 27 [none, none, none] [.int v1] g1 P) : SW sc m_X3_measure (d + 1) rc rs 24 [none, none, none] [.int s2, .int s1, .ref q0] h P := by
  refine sw_cV dX3_measure_24 lv_X3_104 hm1 hr1 rfl (by decide) rfl rfl rfl (Nat.le_of_ble_eq_true rfl) (fun _ _ => rfl) rfl ?_
  show SW sc m_X3_measure _ _ _ 27 [none, none, none] [.int v1] g1 P
  exact (k)
theorem b_X3_measure_27 {s0 : Int32} (hP : P (.inl (some (.int s0))) h) : SW sc m_X3_measure d rc rs 27 [none, none, none] [.int s0] h P := by
  exact sw_ret (v := (some (.int s0))) dX3_measure_27 rt_i hP
theorem b_X3_leastBy_0 {r0 : Nat} {l1 : Int32} {l2 : Int32} (k : SW sc m_X3_leastBy d rc rs 8 [some (.ref r0), some (.int l1), some (.int l2), some (.int 0), some (.int 0), some (.int 0), none] [] h P) : SW sc m_X3_leastBy d rc rs 0 [some (.ref r0), some (.int l1), some (.int l2), none, none, none, none] [] h P := by
  refine sw_iconst (v := 0) dX3_leastBy_0 (by decide) ?_
  refine sw_istore_n dX3_leastBy_1 (by decide) rfl ?_
  show SW sc m_X3_leastBy _ _ _ 2 [some (.ref r0), some (.int l1), some (.int l2), some (.int 0), none, none, none] [] h P
  refine sw_iconst (v := 0) dX3_leastBy_2 (by decide) ?_
  refine sw_istore dX3_leastBy_3 (by decide) rfl ?_
  show SW sc m_X3_leastBy _ _ _ 5 [some (.ref r0), some (.int l1), some (.int l2), some (.int 0), some (.int 0), none, none] [] h P
  refine sw_iconst (v := 0) dX3_leastBy_5 (by decide) ?_
  refine sw_istore dX3_leastBy_6 (by decide) rfl ?_
  show SW sc m_X3_leastBy _ _ _ 8 [some (.ref r0), some (.int l1), some (.int l2), some (.int 0), some (.int 0), some (.int 0), none] [] h P
  exact (k)
theorem b_X3_leastBy_8 {r0 : Nat} {l1 : Int32} {l2 : Int32} {l3 : Int32} {l4 : Int32} {l5 : Int32} {fs3 : List Value} {x3 : Int32} (hc3 : (h)[r0]? = some (3, fs3)) (hv3 : fs3[2]? = some (.int x3)) (kt : x3 ≤ l5 → SW sc m_X3_leastBy d rc rs 79 [none, none, none, none, some (.int l4), none, none] [] h P) (kf : ¬ (x3 ≤ l5) → SW sc m_X3_leastBy d rc rs 17 [some (.ref r0), some (.int l1), some (.int l2), some (.int l3), some (.int l4), some (.int l5), none] [] h P) : SW sc m_X3_leastBy d rc rs 8 [some (.ref r0), some (.int l1), some (.int l2), some (.int l3), some (.int l4), some (.int l5), none] [] h P := by
  refine sw_iload dX3_leastBy_8 rfl ?_
  refine sw_aload_n dX3_leastBy_10 rfl ?_
  refine sw_getf dX3_leastBy_11 lf_X3_18 hc3 hv3 ?_
  exact sw_icmp_ge dX3_leastBy_14 (by decide) (fun q => (sw_fg [true, true, true, true, false, true, false] rfl (kt q))) (fun q => (kf q))
theorem b_X3_leastBy_17 {r0 : Nat} {l1 : Int32} {l2 : Int32} {l3 : Int32} {l4 : Int32} {l5 : Int32} {v3 : Int32} {g3 : ab_H} (hm3 : MSE m_X9_holds d [.int l1, .int l5] h (some (.int v3)) g3) (kt : v3 = 0 → SW sc m_X3_leastBy (d + 1) rc rs 73 [some (.ref r0), some (.int l1), some (.int l2), some (.int l3), some (.int l4), some (.int l5), none] [] g3 P) (kf : ¬ (v3 = 0) → SW sc m_X3_leastBy (d + 1) rc rs 26 [some (.ref r0), some (.int l1), some (.int l2), some (.int l3), some (.int l4), some (.int l5), none] [] g3 P) : SW sc m_X3_leastBy (d + 1) rc rs 17 [some (.ref r0), some (.int l1), some (.int l2), some (.int l3), some (.int l4), some (.int l5), none] [] h P := by
  refine sw_iload_n dX3_leastBy_17 rfl ?_
  refine sw_iload dX3_leastBy_18 rfl ?_
  refine sw_cS dX3_leastBy_20 ls_X3_50 hm3 rfl rfl (Nat.le_of_ble_eq_true rfl) (fun _ _ => rfl) rfl ?_
  show SW sc m_X3_leastBy _ _ _ 23 [some (.ref r0), some (.int l1), some (.int l2), some (.int l3), some (.int l4), some (.int l5), none] [.int v3] g3 P
  exact sw_if_eq dX3_leastBy_23 (by decide) (fun q => (kt q)) (fun q => (kf q))
theorem b_X3_leastBy_26 {r0 : Nat} {l1 : Int32} {l2 : Int32} {l3 : Int32} {l4 : Int32} {l5 : Int32} {v4 : Int32} {g4 : ab_H} {fs4 : List Value} (hr4 : (h)[r0]? = some (3, fs4)) (hm4 : MSE m_X3_measure d [.ref r0, .int l5, .int l2] h (some (.int v4)) g4) (kt : l4 = 0 → SW sc m_X3_leastBy (d + 1) rc rs 46 [some (.ref r0), some (.int l1), some (.int l2), none, none, some (.int l5), some (.int v4)] [] g4 P) (kf : ¬ (l4 = 0) → SW sc m_X3_leastBy (d + 1) rc rs 40 [some (.ref r0), some (.int l1), some (.int l2), some (.int l3), some (.int l4), some (.int l5), some (.int v4)] [] g4 P) : SW sc m_X3_leastBy (d + 1) rc rs 26 [some (.ref r0), some (.int l1), some (.int l2), some (.int l3), some (.int l4), some (.int l5), none] [] h P := by
  refine sw_aload_n dX3_leastBy_26 rfl ?_
  refine sw_iload dX3_leastBy_27 rfl ?_
  refine sw_iload_n dX3_leastBy_29 rfl ?_
  refine sw_cV dX3_leastBy_30 lv_X3_108 hm4 hr4 rfl (by decide) rfl rfl rfl (Nat.le_of_ble_eq_true rfl) (fun _ _ => rfl) rfl ?_
  show SW sc m_X3_leastBy _ _ _ 33 [some (.ref r0), some (.int l1), some (.int l2), some (.int l3), some (.int l4), some (.int l5), none] [.int v4] g4 P
  refine sw_istore dX3_leastBy_33 (by decide) rfl ?_
  show SW sc m_X3_leastBy _ _ _ 35 [some (.ref r0), some (.int l1), some (.int l2), some (.int l3), some (.int l4), some (.int l5), some (.int v4)] [] g4 P
  refine sw_iload dX3_leastBy_35 rfl ?_
  exact sw_if_eq dX3_leastBy_37 (by decide) (fun q => (sw_fg [false, false, false, true, true, false, false] rfl (kt q))) (fun q => (kf q))
theorem b_X3_leastBy_40 {r0 : Nat} {l1 : Int32} {l2 : Int32} {l3 : Int32} {l4 : Int32} {l5 : Int32} {l6 : Int32} (kt : l3 ≤ l6 → SW sc m_X3_leastBy d rc rs 58 [some (.ref r0), some (.int l1), some (.int l2), some (.int l3), some (.int l4), some (.int l5), some (.int l6)] [] h P) (kf : ¬ (l3 ≤ l6) → SW sc m_X3_leastBy d rc rs 46 [some (.ref r0), some (.int l1), some (.int l2), none, none, some (.int l5), some (.int l6)] [] h P) : SW sc m_X3_leastBy d rc rs 40 [some (.ref r0), some (.int l1), some (.int l2), some (.int l3), some (.int l4), some (.int l5), some (.int l6)] [] h P := by
  refine sw_iload dX3_leastBy_40 rfl ?_
  refine sw_iload_n dX3_leastBy_42 rfl ?_
  exact sw_icmp_ge dX3_leastBy_43 (by decide) (fun q => (kt q)) (fun q => (sw_fg [false, false, false, true, true, false, false] rfl (kf q)))
theorem b_X3_leastBy_46 {r0 : Nat} {l1 : Int32} {l2 : Int32} {l5 : Int32} {l6 : Int32} (k : SW sc m_X3_leastBy d rc rs 73 [some (.ref r0), some (.int l1), some (.int l2), some (.int l6), some (.int (1 <<< (l5 &&& 31))), some (.int l5), none] [] h P) : SW sc m_X3_leastBy d rc rs 46 [some (.ref r0), some (.int l1), some (.int l2), none, none, some (.int l5), some (.int l6)] [] h P := by
  refine sw_iload dX3_leastBy_46 rfl ?_
  refine sw_istore_n dX3_leastBy_48 (by decide) rfl ?_
  show SW sc m_X3_leastBy _ _ _ 49 [some (.ref r0), some (.int l1), some (.int l2), some (.int l6), none, some (.int l5), some (.int l6)] [] h P
  refine sw_iconst (v := 1) dX3_leastBy_49 (by decide) ?_
  refine sw_iload dX3_leastBy_50 rfl ?_
  refine sw_ishl dX3_leastBy_52 ?_
  refine sw_istore dX3_leastBy_53 (by decide) rfl ?_
  show SW sc m_X3_leastBy _ _ _ 55 [some (.ref r0), some (.int l1), some (.int l2), some (.int l6), some (.int (1 <<< (l5 &&& 31))), some (.int l5), some (.int l6)] [] h P
  exact sw_goto dX3_leastBy_55 (by decide) (sw_fg [false, false, false, false, false, false, true] rfl (k))
theorem b_X3_leastBy_58 {r0 : Nat} {l1 : Int32} {l2 : Int32} {l3 : Int32} {l4 : Int32} {l5 : Int32} {l6 : Int32} (kt : ¬ l6 = l3 → SW sc m_X3_leastBy d rc rs 73 [some (.ref r0), some (.int l1), some (.int l2), some (.int l3), some (.int l4), some (.int l5), none] [] h P) (kf : l6 = l3 → SW sc m_X3_leastBy d rc rs 64 [some (.ref r0), some (.int l1), some (.int l2), some (.int l3), some (.int l4), some (.int l5), none] [] h P) : SW sc m_X3_leastBy d rc rs 58 [some (.ref r0), some (.int l1), some (.int l2), some (.int l3), some (.int l4), some (.int l5), some (.int l6)] [] h P := by
  refine sw_iload dX3_leastBy_58 rfl ?_
  refine sw_iload_n dX3_leastBy_60 rfl ?_
  exact sw_icmp_ne dX3_leastBy_61 (by decide) (fun q => (sw_fg [false, false, false, false, false, false, true] rfl (kt q))) (fun q => (sw_fg [false, false, false, false, false, false, true] rfl (kf q)))
theorem b_X3_leastBy_64 {r0 : Nat} {l1 : Int32} {l2 : Int32} {l3 : Int32} {l4 : Int32} {l5 : Int32} (k : SW sc m_X3_leastBy d rc rs 73 [some (.ref r0), some (.int l1), some (.int l2), some (.int l3), some (.int (l4 ||| (1 <<< (l5 &&& 31)))), some (.int l5), none] [] h P) : SW sc m_X3_leastBy d rc rs 64 [some (.ref r0), some (.int l1), some (.int l2), some (.int l3), some (.int l4), some (.int l5), none] [] h P := by
  refine sw_iload dX3_leastBy_64 rfl ?_
  refine sw_iconst (v := 1) dX3_leastBy_66 (by decide) ?_
  refine sw_iload dX3_leastBy_67 rfl ?_
  refine sw_ishl dX3_leastBy_69 ?_
  refine sw_ior dX3_leastBy_70 ?_
  refine sw_istore dX3_leastBy_71 (by decide) rfl ?_
  show SW sc m_X3_leastBy _ _ _ 73 [some (.ref r0), some (.int l1), some (.int l2), some (.int l3), some (.int (l4 ||| (1 <<< (l5 &&& 31)))), some (.int l5), none] [] h P
  exact (k)
theorem b_X3_leastBy_73 {r0 : Nat} {l1 : Int32} {l2 : Int32} {l3 : Int32} {l4 : Int32} {l5 : Int32} (k : SW sc m_X3_leastBy d rc rs 8 [some (.ref r0), some (.int l1), some (.int l2), some (.int l3), some (.int l4), some (.int (l5 + 1)), none] [] h P) : SW sc m_X3_leastBy d rc rs 73 [some (.ref r0), some (.int l1), some (.int l2), some (.int l3), some (.int l4), some (.int l5), none] [] h P := by
  refine sw_iinc (v := l5 + 1) dX3_leastBy_73 rfl rfl (by decide) rfl ?_
  show SW sc m_X3_leastBy _ _ _ 76 [some (.ref r0), some (.int l1), some (.int l2), some (.int l3), some (.int l4), some (.int (l5 + 1)), none] [] h P
  exact sw_goto dX3_leastBy_76 (by decide) (k)
theorem b_X3_leastBy_79 {l4 : Int32} (hP : P (.inl (some (.int l4))) h) : SW sc m_X3_leastBy d rc rs 79 [none, none, none, none, some (.int l4), none, none] [] h P := by
  refine sw_iload dX3_leastBy_79 rfl ?_
  exact sw_ret (v := (some (.int l4))) dX3_leastBy_81 rt_i hP
theorem b_X4_forget_0 {r0 : Nat} {fs3 : List Value} (hc3 : (h)[r0]? = some (4, fs3)) (hk3 : 1 < fs3.length) (hP : P (.inl none) ((h).set r0 (4, fs3.set 1 (.int 0)))) : SW sc m_X4_forget d rc rs 0 [some (.ref r0)] [] h P := by
  refine sw_aload_n dX4_forget_0 rfl ?_
  refine sw_iconst (v := 0) dX4_forget_1 (by decide) ?_
  refine sw_putf dX4_forget_2 lp_X4_15 hc3 hk3 (fun _ _ => ⟨rfl, rfl⟩) ?_
  exact sw_ret (v := none) dX4_forget_5 rt_v hP
theorem b_X4_numberOf_0 {r0 : Nat} {l1 : Int32} (k : SW sc m_X4_numberOf d rc rs 2 [some (.ref r0), some (.int l1), some (.int 0)] [] h P) : SW sc m_X4_numberOf d rc rs 0 [some (.ref r0), some (.int l1), none] [] h P := by
  refine sw_iconst (v := 0) dX4_numberOf_0 (by decide) ?_
  refine sw_istore_n dX4_numberOf_1 (by decide) rfl ?_
  show SW sc m_X4_numberOf _ _ _ 2 [some (.ref r0), some (.int l1), some (.int 0)] [] h P
  exact (k)
theorem b_X4_numberOf_2 {r0 : Nat} {l1 : Int32} {l2 : Int32} {fs3 : List Value} {x3 : Int32} (hc3 : (h)[r0]? = some (4, fs3)) (hv3 : fs3[1]? = some (.int x3)) (kt : x3 ≤ l2 → SW sc m_X4_numberOf d rc rs 34 [some (.ref r0), some (.int l1), none] [] h P) (kf : ¬ (x3 ≤ l2) → SW sc m_X4_numberOf d rc rs 10 [some (.ref r0), some (.int l1), some (.int l2)] [] h P) : SW sc m_X4_numberOf d rc rs 2 [some (.ref r0), some (.int l1), some (.int l2)] [] h P := by
  refine sw_iload_n dX4_numberOf_2 rfl ?_
  refine sw_aload_n dX4_numberOf_3 rfl ?_
  refine sw_getf dX4_numberOf_4 lf_X4_15 hc3 hv3 ?_
  exact sw_icmp_ge dX4_numberOf_7 (by decide) (fun q => (sw_fg [false, false, true] rfl (kt q))) (fun q => (kf q))
theorem b_X4_numberOf_10 {r0 : Nat} {l1 : Int32} {l2 : Int32} (kt : 10 ≤ l2 → SW sc m_X4_numberOf d rc rs 34 [some (.ref r0), some (.int l1), none] [] h P) (kf : ¬ (10 ≤ l2) → SW sc m_X4_numberOf d rc rs 16 [some (.ref r0), some (.int l1), some (.int l2)] [] h P) : SW sc m_X4_numberOf d rc rs 10 [some (.ref r0), some (.int l1), some (.int l2)] [] h P := by
  refine sw_iload_n dX4_numberOf_10 rfl ?_
  refine sw_bipush (v := 10) dX4_numberOf_11 (by decide) ?_
  exact sw_icmp_ge dX4_numberOf_13 (by decide) (fun q => (sw_fg [false, false, true] rfl (kt q))) (fun q => (kf q))
theorem b_X4_numberOf_16 {r0 : Nat} {l1 : Int32} {l2 : Int32} {fs2 : List Value} {a2 : Nat} {vs4 : List Value} {x4 : Int32} (hc2 : (h)[r0]? = some (4, fs2)) (hv2 : fs2[0]? = some (.ref a2)) (hc4 : (h)[a2]? = some (100, vs4)) (ho4 : ¬ l2 < 0) (hi4 : vs4[l2.toNatClampNeg]? = some (.int x4)) (kt : ¬ x4 = l1 → SW sc m_X4_numberOf d rc rs 28 [some (.ref r0), some (.int l1), some (.int l2)] [] h P) (kf : x4 = l1 → SW sc m_X4_numberOf d rc rs 26 [none, none, some (.int l2)] [] h P) : SW sc m_X4_numberOf d rc rs 16 [some (.ref r0), some (.int l1), some (.int l2)] [] h P := by
  refine sw_aload_n dX4_numberOf_16 rfl ?_
  refine sw_getf dX4_numberOf_17 lf_X4_9 hc2 hv2 ?_
  refine sw_iload_n dX4_numberOf_20 rfl ?_
  refine sw_iald dX4_numberOf_21 hc4 ho4 hi4 ?_
  refine sw_iload_n dX4_numberOf_22 rfl ?_
  exact sw_icmp_ne dX4_numberOf_23 (by decide) (fun q => (kt q)) (fun q => (sw_fg [true, true, false] rfl (kf q)))
theorem b_X4_numberOf_26 {l2 : Int32} (hP : P (.inl (some (.int l2))) h) : SW sc m_X4_numberOf d rc rs 26 [none, none, some (.int l2)] [] h P := by
  refine sw_iload_n dX4_numberOf_26 rfl ?_
  exact sw_ret (v := (some (.int l2))) dX4_numberOf_27 rt_i hP
theorem b_X4_numberOf_28 {r0 : Nat} {l1 : Int32} {l2 : Int32} (k : SW sc m_X4_numberOf d rc rs 2 [some (.ref r0), some (.int l1), some (.int (l2 + 1))] [] h P) : SW sc m_X4_numberOf d rc rs 28 [some (.ref r0), some (.int l1), some (.int l2)] [] h P := by
  refine sw_iinc (v := l2 + 1) dX4_numberOf_28 rfl rfl (by decide) rfl ?_
  show SW sc m_X4_numberOf _ _ _ 31 [some (.ref r0), some (.int l1), some (.int (l2 + 1))] [] h P
  exact sw_goto dX4_numberOf_31 (by decide) (k)
theorem b_X4_numberOf_34 {r0 : Nat} {l1 : Int32} {fs2 : List Value} {x2 : Int32} (hc2 : (h)[r0]? = some (4, fs2)) (hv2 : fs2[1]? = some (.int x2)) (kt : x2 < 10 → SW sc m_X4_numberOf d rc rs 45 [some (.ref r0), some (.int l1), none] [] h P) (kf : ¬ (x2 < 10) → SW sc m_X4_numberOf d rc rs 43 [none, none, none] [] h P) : SW sc m_X4_numberOf d rc rs 34 [some (.ref r0), some (.int l1), none] [] h P := by
  refine sw_aload_n dX4_numberOf_34 rfl ?_
  refine sw_getf dX4_numberOf_35 lf_X4_15 hc2 hv2 ?_
  refine sw_bipush (v := 10) dX4_numberOf_38 (by decide) ?_
  exact sw_icmp_lt dX4_numberOf_40 (by decide) (fun q => (kt q)) (fun q => (sw_fg [true, true, false] rfl (kf q)))
theorem b_X4_numberOf_43  (hP : P (.inl (some (.int (-1)))) h) : SW sc m_X4_numberOf d rc rs 43 [none, none, none] [] h P := by
  refine sw_iconst (v := (-1)) dX4_numberOf_43 (by decide) ?_
  exact sw_ret (v := (some (.int (-1)))) dX4_numberOf_44 rt_i hP
theorem b_X4_numberOf_45 {r0 : Nat} {l1 : Int32} {fs2 : List Value} {a2 : Nat} {fs4 : List Value} {x4 : Int32} {vs6 : List Value} {fs9 : List Value} {x9 : Int32} {fs12 : List Value} {fs14 : List Value} {x14 : Int32} (hc2 : (h)[r0]? = some (4, fs2)) (hv2 : fs2[0]? = some (.ref a2)) (hc4 : (h)[r0]? = some (4, fs4)) (hv4 : fs4[1]? = some (.int x4)) (hc6 : (h)[a2]? = some (100, vs6)) (ho6 : ¬ x4 < 0) (hl6 : x4.toNatClampNeg < vs6.length) (hc9 : ((h).set a2 (100, vs6.set x4.toNatClampNeg (.int l1)))[r0]? = some (4, fs9)) (hv9 : fs9[1]? = some (.int x9)) (hc12 : ((h).set a2 (100, vs6.set x4.toNatClampNeg (.int l1)))[r0]? = some (4, fs12)) (hk12 : 1 < fs12.length) (hc14 : (((h).set a2 (100, vs6.set x4.toNatClampNeg (.int l1))).set r0 (4, fs12.set 1 (.int (x9 + 1))))[r0]? = some (4, fs14)) (hv14 : fs14[1]? = some (.int x14)) (hP : P (.inl (some (.int (x14 - 1)))) (((h).set a2 (100, vs6.set x4.toNatClampNeg (.int l1))).set r0 (4, fs12.set 1 (.int (x9 + 1))))) : SW sc m_X4_numberOf d rc rs 45 [some (.ref r0), some (.int l1), none] [] h P := by
  refine sw_aload_n dX4_numberOf_45 rfl ?_
  refine sw_getf dX4_numberOf_46 lf_X4_9 hc2 hv2 ?_
  refine sw_aload_n dX4_numberOf_49 rfl ?_
  refine sw_getf dX4_numberOf_50 lf_X4_15 hc4 hv4 ?_
  refine sw_iload_n dX4_numberOf_53 rfl ?_
  refine sw_iast dX4_numberOf_54 hc6 ho6 hl6 ?_
  refine sw_aload_n dX4_numberOf_55 rfl ?_
  refine sw_dup dX4_numberOf_56 (fun _ _ => rfl) ?_
  refine sw_getf dX4_numberOf_57 lf_X4_15 hc9 hv9 ?_
  refine sw_iconst (v := 1) dX4_numberOf_60 (by decide) ?_
  refine sw_iadd dX4_numberOf_61 ?_
  refine sw_putf dX4_numberOf_62 lp_X4_15 hc12 hk12 (fun _ _ => ⟨rfl, rfl⟩) ?_
  refine sw_aload_n dX4_numberOf_65 rfl ?_
  refine sw_getf dX4_numberOf_66 lf_X4_15 hc14 hv14 ?_
  refine sw_iconst (v := 1) dX4_numberOf_69 (by decide) ?_
  refine sw_isub dX4_numberOf_70 ?_
  exact sw_ret (v := (some (.int (x14 - 1)))) dX4_numberOf_71 rt_i hP
theorem b_X5_forget_0 {r0 : Nat} {fs3 : List Value} {fs6 : List Value} (hc3 : (h)[r0]? = some (5, fs3)) (hk3 : 3 < fs3.length) (hc6 : ((h).set r0 (5, fs3.set 3 (.int 0)))[r0]? = some (5, fs6)) (hk6 : 4 < fs6.length) (hP : P (.inl none) (((h).set r0 (5, fs3.set 3 (.int 0))).set r0 (5, fs6.set 4 (.int 0)))) : SW sc m_X5_forget d rc rs 0 [some (.ref r0)] [] h P := by
  refine sw_aload_n dX5_forget_0 rfl ?_
  refine sw_iconst (v := 0) dX5_forget_1 (by decide) ?_
  refine sw_putf dX5_forget_2 lp_X5_19 hc3 hk3 (fun _ _ => ⟨rfl, rfl⟩) ?_
  refine sw_aload_n dX5_forget_5 rfl ?_
  refine sw_iconst (v := 0) dX5_forget_6 (by decide) ?_
  refine sw_putf dX5_forget_7 lp_X5_23 hc6 hk6 (fun _ _ => ⟨rfl, rfl⟩) ?_
  exact sw_ret (v := none) dX5_forget_10 rt_v hP
theorem b_X5_record_0 {r0 : Nat} {r1 : Nat} {fs2 : List Value} {x2 : Int32} {v4 : Int32} {g4 : ab_H} {fs8 : List Value} {a8 : Nat} {vs10 : List Value} {a10 : Nat} {g11 : ab_H} {fs11 : List Value} {v17 : Int32} {g17 : ab_H} {fs18 : List Value} {fs21 : List Value} {x21 : Int32} {v25 : Int32} {g25 : ab_H} {fs26 : List Value} {fs28 : List Value} {a28 : Nat} {vs30 : List Value} {a30 : Nat} (hc2 : (h)[r0]? = some (5, fs2)) (hv2 : fs2[2]? = some (.int x2)) (hm4 : MSE m_J9_floorMod_7cf53 d [.int x2, .int 8] h (some (.int v4)) g4) (hc8 : (g4)[r0]? = some (5, fs8)) (hv8 : fs8[0]? = some (.ref a8)) (hc10 : (g4)[a8]? = some (104, vs10)) (ho10 : ¬ v4 < 0) (hi10 : vs10[v4.toNatClampNeg]? = some (.ref a10)) (hr11 : (g4)[r1]? = some (3, fs11)) (hm11 : MSE m_X3_saveTo d [.ref r1, .ref a10] g4 none g11) (hm17 : MSE m_J9_floorMod_7cf53 d [.int (v4 + 1), .int 8] g11 (some (.int v17)) g17) (hc18 : (g17)[r0]? = some (5, fs18)) (hk18 : 2 < fs18.length) (hc21 : ((g17).set r0 (5, fs18.set 2 (.int v17)))[r0]? = some (5, fs21)) (hv21 : fs21[3]? = some (.int x21)) (hm25 : MSE m_J9_min_7cf53 d [.int (x21 + 1), .int 8] ((g17).set r0 (5, fs18.set 2 (.int v17))) (some (.int v25)) g25) (hc26 : (g25)[r0]? = some (5, fs26)) (hk26 : 3 < fs26.length) (hc28 : ((g25).set r0 (5, fs26.set 3 (.int v25)))[r0]? = some (5, fs28)) (hv28 : fs28[0]? = some (.ref a28)) (hc30 : ((g25).set r0 (5, fs26.set 3 (.int v25)))[a28]? = some (104, vs30)) (ho30 : ¬ v4 < 0) (hi30 : vs30[v4.toNatClampNeg]? = some (.ref a30)) (hP : P (.inl (some (.ref a30))) ((g25).set r0 (5, fs26.set 3 (.int v25)))) : SW sc m_X5_record (d + 1) rc rs 0 [some (.ref r0), some (.ref r1), none] [] h P := by
  refine sw_aload_n dX5_record_0 rfl ?_
  refine sw_getf dX5_record_1 lf_X5_26 hc2 hv2 ?_
  refine sw_bipush (v := 8) dX5_record_4 (by decide) ?_
  refine sw_cS dX5_record_6 ls_X5_29 hm4 rfl rfl (Nat.le_of_ble_eq_true rfl) (fun _ _ => rfl) rfl ?_
  show SW sc m_X5_record _ _ _ 9 [some (.ref r0), some (.ref r1), none] [.int v4] g4 P
  refine sw_istore_n dX5_record_9 (by decide) rfl ?_
  show SW sc m_X5_record _ _ _ 10 [some (.ref r0), some (.ref r1), some (.int v4)] [] g4 P
  refine sw_aload_n dX5_record_10 rfl ?_
  refine sw_aload_n dX5_record_11 rfl ?_
  refine sw_getf dX5_record_12 lf_X5_11 hc8 hv8 ?_
  refine sw_iload_n dX5_record_15 rfl ?_
  refine sw_aald dX5_record_16 hc10 ho10 hi10 ?_
  refine sw_cV dX5_record_17 lv_X5_35 hm11 hr11 rfl (by decide) rfl rfl rfl (Nat.le_of_ble_eq_true rfl) (fun _ _ => rfl) rfl ?_
  show SW sc m_X5_record _ _ _ 20 [some (.ref r0), some (.ref r1), some (.int v4)] [] g11 P
  refine sw_aload_n dX5_record_20 rfl ?_
  refine sw_iload_n dX5_record_21 rfl ?_
  refine sw_iconst (v := 1) dX5_record_22 (by decide) ?_
  refine sw_iadd dX5_record_23 ?_
  refine sw_bipush (v := 8) dX5_record_24 (by decide) ?_
  refine sw_cS dX5_record_26 ls_X5_29 hm17 rfl rfl (Nat.le_of_ble_eq_true rfl) (fun _ _ => rfl) rfl ?_
  show SW sc m_X5_record _ _ _ 29 [some (.ref r0), some (.ref r1), some (.int v4)] [.int v17, .ref r0] g17 P
  refine sw_putf dX5_record_29 lp_X5_26 hc18 hk18 (fun _ _ => ⟨rfl, rfl⟩) ?_
  refine sw_aload_n dX5_record_32 rfl ?_
  refine sw_aload_n dX5_record_33 rfl ?_
  refine sw_getf dX5_record_34 lf_X5_19 hc21 hv21 ?_
  refine sw_iconst (v := 1) dX5_record_37 (by decide) ?_
  refine sw_iadd dX5_record_38 ?_
  refine sw_bipush (v := 8) dX5_record_39 (by decide) ?_
  refine sw_cS dX5_record_41 ls_X5_41 hm25 rfl rfl (Nat.le_of_ble_eq_true rfl) (fun _ _ => rfl) rfl ?_
  show SW sc m_X5_record _ _ _ 44 [some (.ref r0), some (.ref r1), some (.int v4)] [.int v25, .ref r0] g25 P
  refine sw_putf dX5_record_44 lp_X5_19 hc26 hk26 (fun _ _ => ⟨rfl, rfl⟩) ?_
  refine sw_aload_n dX5_record_47 rfl ?_
  refine sw_getf dX5_record_48 lf_X5_11 hc28 hv28 ?_
  refine sw_iload_n dX5_record_51 rfl ?_
  refine sw_aald dX5_record_52 hc30 ho30 hi30 ?_
  exact sw_ret (v := (some (.ref a30))) dX5_record_53 rt_a hP
theorem b_X5_takeBack_0 {r0 : Nat} {r1 : Nat} {fs2 : List Value} {x2 : Int32} (hc2 : (h)[r0]? = some (5, fs2)) (hv2 : fs2[3]? = some (.int x2)) (kt : ¬ x2 = 0 → SW sc m_X5_takeBack d rc rs 9 [some (.ref r0), some (.ref r1)] [] h P) (kf : x2 = 0 → SW sc m_X5_takeBack d rc rs 7 [none, none] [] h P) : SW sc m_X5_takeBack d rc rs 0 [some (.ref r0), some (.ref r1)] [] h P := by
  refine sw_aload_n dX5_takeBack_0 rfl ?_
  refine sw_getf dX5_takeBack_1 lf_X5_19 hc2 hv2 ?_
  exact sw_if_ne dX5_takeBack_4 (by decide) (fun q => (kt q)) (fun q => (sw_fg [true, true] rfl (kf q)))
theorem b_X5_takeBack_7  (hP : P (.inl (some (.int 0))) h) : SW sc m_X5_takeBack d rc rs 7 [none, none] [] h P := by
  refine sw_iconst (v := 0) dX5_takeBack_7 (by decide) ?_
  exact sw_ret (v := (some (.int 0))) dX5_takeBack_8 (rt_n (by decide)) hP
theorem b_X5_takeBack_9 {r0 : Nat} {r1 : Nat} {fs3 : List Value} {x3 : Int32} {v7 : Int32} {g7 : ab_H} {fs8 : List Value} {fs11 : List Value} {x11 : Int32} {fs14 : List Value} {fs17 : List Value} {a17 : Nat} {fs19 : List Value} {x19 : Int32} {vs20 : List Value} {a20 : Nat} {g21 : ab_H} {fs21 : List Value} (hc3 : (h)[r0]? = some (5, fs3)) (hv3 : fs3[2]? = some (.int x3)) (hm7 : MSE m_J9_floorMod_7cf53 d [.int (x3 - 1), .int 8] h (some (.int v7)) g7) (hc8 : (g7)[r0]? = some (5, fs8)) (hk8 : 2 < fs8.length) (hc11 : ((g7).set r0 (5, fs8.set 2 (.int v7)))[r0]? = some (5, fs11)) (hv11 : fs11[3]? = some (.int x11)) (hc14 : ((g7).set r0 (5, fs8.set 2 (.int v7)))[r0]? = some (5, fs14)) (hk14 : 3 < fs14.length) (hc17 : (((g7).set r0 (5, fs8.set 2 (.int v7))).set r0 (5, fs14.set 3 (.int (x11 - 1))))[r0]? = some (5, fs17)) (hv17 : fs17[0]? = some (.ref a17)) (hc19 : (((g7).set r0 (5, fs8.set 2 (.int v7))).set r0 (5, fs14.set 3 (.int (x11 - 1))))[r0]? = some (5, fs19)) (hv19 : fs19[2]? = some (.int x19)) (hc20 : (((g7).set r0 (5, fs8.set 2 (.int v7))).set r0 (5, fs14.set 3 (.int (x11 - 1))))[a17]? = some (104, vs20)) (ho20 : ¬ x19 < 0) (hi20 : vs20[x19.toNatClampNeg]? = some (.ref a20)) (hr21 : (((g7).set r0 (5, fs8.set 2 (.int v7))).set r0 (5, fs14.set 3 (.int (x11 - 1))))[r1]? = some (3, fs21)) (hm21 : MSE m_X3_bringFrom d [.ref r1, .ref a20] (((g7).set r0 (5, fs8.set 2 (.int v7))).set r0 (5, fs14.set 3 (.int (x11 - 1)))) none g21) (hP : P (.inl (some (.int 1))) g21) : SW sc m_X5_takeBack (d + 1) rc rs 9 [some (.ref r0), some (.ref r1)] [] h P := by
  refine sw_aload_n dX5_takeBack_9 rfl ?_
  refine sw_aload_n dX5_takeBack_10 rfl ?_
  refine sw_getf dX5_takeBack_11 lf_X5_26 hc3 hv3 ?_
  refine sw_iconst (v := 1) dX5_takeBack_14 (by decide) ?_
  refine sw_isub dX5_takeBack_15 ?_
  refine sw_bipush (v := 8) dX5_takeBack_16 (by decide) ?_
  refine sw_cS dX5_takeBack_18 ls_X5_29 hm7 rfl rfl (Nat.le_of_ble_eq_true rfl) (fun _ _ => rfl) rfl ?_
  show SW sc m_X5_takeBack _ _ _ 21 [some (.ref r0), some (.ref r1)] [.int v7, .ref r0] g7 P
  refine sw_putf dX5_takeBack_21 lp_X5_26 hc8 hk8 (fun _ _ => ⟨rfl, rfl⟩) ?_
  refine sw_aload_n dX5_takeBack_24 rfl ?_
  refine sw_dup dX5_takeBack_25 (fun _ _ => rfl) ?_
  refine sw_getf dX5_takeBack_26 lf_X5_19 hc11 hv11 ?_
  refine sw_iconst (v := 1) dX5_takeBack_29 (by decide) ?_
  refine sw_isub dX5_takeBack_30 ?_
  refine sw_putf dX5_takeBack_31 lp_X5_19 hc14 hk14 (fun _ _ => ⟨rfl, rfl⟩) ?_
  refine sw_aload_n dX5_takeBack_34 rfl ?_
  refine sw_aload_n dX5_takeBack_35 rfl ?_
  refine sw_getf dX5_takeBack_36 lf_X5_11 hc17 hv17 ?_
  refine sw_aload_n dX5_takeBack_39 rfl ?_
  refine sw_getf dX5_takeBack_40 lf_X5_26 hc19 hv19 ?_
  refine sw_aald dX5_takeBack_43 hc20 ho20 hi20 ?_
  refine sw_cV dX5_takeBack_44 lv_X5_44 hm21 hr21 rfl (by decide) rfl rfl rfl (Nat.le_of_ble_eq_true rfl) (fun _ _ => rfl) rfl ?_
  show SW sc m_X5_takeBack _ _ _ 47 [some (.ref r0), some (.ref r1)] [] g21 P
  refine sw_iconst (v := 1) dX5_takeBack_47 (by decide) ?_
  exact sw_ret (v := (some (.int 1))) dX5_takeBack_48 (rt_n (by decide)) hP
theorem b_X5_hasSnapshot_0 {r0 : Nat} {l1 : Int32} (kt : l1 < 0 → SW sc m_X5_hasSnapshot d rc rs 24 [none, none] [] h P) (kf : ¬ (l1 < 0) → SW sc m_X5_hasSnapshot d rc rs 4 [some (.ref r0), some (.int l1)] [] h P) : SW sc m_X5_hasSnapshot d rc rs 0 [some (.ref r0), some (.int l1)] [] h P := by
  refine sw_iload_n dX5_hasSnapshot_0 rfl ?_
  exact sw_if_lt dX5_hasSnapshot_1 (by decide) (fun q => (sw_fg [true, true] rfl (kt q))) (fun q => (kf q))
theorem b_X5_hasSnapshot_4 {r0 : Nat} {l1 : Int32} (kt : 3 ≤ l1 → SW sc m_X5_hasSnapshot d rc rs 24 [none, none] [] h P) (kf : ¬ (3 ≤ l1) → SW sc m_X5_hasSnapshot d rc rs 9 [some (.ref r0), some (.int l1)] [] h P) : SW sc m_X5_hasSnapshot d rc rs 4 [some (.ref r0), some (.int l1)] [] h P := by
  refine sw_iload_n dX5_hasSnapshot_4 rfl ?_
  refine sw_iconst (v := 3) dX5_hasSnapshot_5 (by decide) ?_
  exact sw_icmp_ge dX5_hasSnapshot_6 (by decide) (fun q => (sw_fg [true, true] rfl (kt q))) (fun q => (kf q))
theorem b_X5_hasSnapshot_9 {r0 : Nat} {l1 : Int32} {fs2 : List Value} {x2 : Int32} {v4 : Int32} {g4 : ab_H} (hc2 : (h)[r0]? = some (5, fs2)) (hv2 : fs2[4]? = some (.int x2)) (hm4 : MSE m_X9_holds d [.int x2, .int l1] h (some (.int v4)) g4) (kt : v4 = 0 → SW sc m_X5_hasSnapshot (d + 1) rc rs 24 [none, none] [] g4 P) (kf : ¬ (v4 = 0) → SW sc m_X5_hasSnapshot (d + 1) rc rs 20 [none, none] [] g4 P) : SW sc m_X5_hasSnapshot (d + 1) rc rs 9 [some (.ref r0), some (.int l1)] [] h P := by
  refine sw_aload_n dX5_hasSnapshot_9 rfl ?_
  refine sw_getf dX5_hasSnapshot_10 lf_X5_23 hc2 hv2 ?_
  refine sw_iload_n dX5_hasSnapshot_13 rfl ?_
  refine sw_cS dX5_hasSnapshot_14 ls_X5_47 hm4 rfl rfl (Nat.le_of_ble_eq_true rfl) (fun _ _ => rfl) rfl ?_
  show SW sc m_X5_hasSnapshot _ _ _ 17 [some (.ref r0), some (.int l1)] [.int v4] g4 P
  exact sw_if_eq dX5_hasSnapshot_17 (by decide) (fun q => (sw_fg [true, true] rfl (kt q))) (fun q => (sw_fg [true, true] rfl (kf q)))
theorem b_X5_hasSnapshot_20  (k : SW sc m_X5_hasSnapshot d rc rs 25 [none, none] [.int 1] h P) : SW sc m_X5_hasSnapshot d rc rs 20 [none, none] [] h P := by
  refine sw_iconst (v := 1) dX5_hasSnapshot_20 (by decide) ?_
  exact sw_goto dX5_hasSnapshot_21 (by decide) (k)
theorem b_X5_hasSnapshot_24  (k : SW sc m_X5_hasSnapshot d rc rs 25 [none, none] [.int 0] h P) : SW sc m_X5_hasSnapshot d rc rs 24 [none, none] [] h P := by
  refine sw_iconst (v := 0) dX5_hasSnapshot_24 (by decide) ?_
  exact (k)
theorem b_X5_hasSnapshot_25 {s0 : Int32} (hz1 : narrow .boolean (.int s0) = .int s0) (hP : P (.inl (some (.int s0))) h) : SW sc m_X5_hasSnapshot d rc rs 25 [none, none] [.int s0] h P := by
  exact sw_ret (v := (some (.int s0))) dX5_hasSnapshot_25 (rt_n hz1) hP
theorem b_X5_keepSnapshot_0 {r0 : Nat} {l1 : Int32} {r2 : Nat} (kt : l1 < 0 → SW sc m_X5_keepSnapshot d rc rs 31 [none, none, none] [] h P) (kf : ¬ (l1 < 0) → SW sc m_X5_keepSnapshot d rc rs 4 [some (.ref r0), some (.int l1), some (.ref r2)] [] h P) : SW sc m_X5_keepSnapshot d rc rs 0 [some (.ref r0), some (.int l1), some (.ref r2)] [] h P := by
  refine sw_iload_n dX5_keepSnapshot_0 rfl ?_
  exact sw_if_lt dX5_keepSnapshot_1 (by decide) (fun q => (sw_fg [true, true, true] rfl (kt q))) (fun q => (kf q))
theorem b_X5_keepSnapshot_4 {r0 : Nat} {l1 : Int32} {r2 : Nat} (kt : 3 ≤ l1 → SW sc m_X5_keepSnapshot d rc rs 31 [none, none, none] [] h P) (kf : ¬ (3 ≤ l1) → SW sc m_X5_keepSnapshot d rc rs 9 [some (.ref r0), some (.int l1), some (.ref r2)] [] h P) : SW sc m_X5_keepSnapshot d rc rs 4 [some (.ref r0), some (.int l1), some (.ref r2)] [] h P := by
  refine sw_iload_n dX5_keepSnapshot_4 rfl ?_
  refine sw_iconst (v := 3) dX5_keepSnapshot_5 (by decide) ?_
  exact sw_icmp_ge dX5_keepSnapshot_6 (by decide) (fun q => (sw_fg [true, true, true] rfl (kt q))) (fun q => (kf q))
theorem b_X5_keepSnapshot_9 {r0 : Nat} {l1 : Int32} {r2 : Nat} {fs3 : List Value} {a3 : Nat} {vs5 : List Value} {a5 : Nat} {g6 : ab_H} {fs6 : List Value} {fs9 : List Value} {x9 : Int32} {fs14 : List Value} (hc3 : (h)[r0]? = some (5, fs3)) (hv3 : fs3[1]? = some (.ref a3)) (hc5 : (h)[a3]? = some (104, vs5)) (ho5 : ¬ l1 < 0) (hi5 : vs5[l1.toNatClampNeg]? = some (.ref a5)) (hr6 : (h)[r2]? = some (3, fs6)) (hm6 : MSE m_X3_saveTo d [.ref r2, .ref a5] h none g6) (hc9 : (g6)[r0]? = some (5, fs9)) (hv9 : fs9[4]? = some (.int x9)) (hc14 : (g6)[r0]? = some (5, fs14)) (hk14 : 4 < fs14.length) (k : SW sc m_X5_keepSnapshot (d + 1) rc rs 31 [none, none, none] [] ((g6).set r0 (5, fs14.set 4 (.int (x9 ||| (1 <<< (l1 &&& 31)))))) P) : SW sc m_X5_keepSnapshot (d + 1) rc rs 9 [some (.ref r0), some (.int l1), some (.ref r2)] [] h P := by
  refine sw_aload_n dX5_keepSnapshot_9 rfl ?_
  refine sw_aload_n dX5_keepSnapshot_10 rfl ?_
  refine sw_getf dX5_keepSnapshot_11 lf_X5_16 hc3 hv3 ?_
  refine sw_iload_n dX5_keepSnapshot_14 rfl ?_
  refine sw_aald dX5_keepSnapshot_15 hc5 ho5 hi5 ?_
  refine sw_cV dX5_keepSnapshot_16 lv_X5_35 hm6 hr6 rfl (by decide) rfl rfl rfl (Nat.le_of_ble_eq_true rfl) (fun _ _ => rfl) rfl ?_
  show SW sc m_X5_keepSnapshot _ _ _ 19 [some (.ref r0), some (.int l1), some (.ref r2)] [] g6 P
  refine sw_aload_n dX5_keepSnapshot_19 rfl ?_
  refine sw_dup dX5_keepSnapshot_20 (fun _ _ => rfl) ?_
  refine sw_getf dX5_keepSnapshot_21 lf_X5_23 hc9 hv9 ?_
  refine sw_iconst (v := 1) dX5_keepSnapshot_24 (by decide) ?_
  refine sw_iload_n dX5_keepSnapshot_25 rfl ?_
  refine sw_ishl dX5_keepSnapshot_26 ?_
  refine sw_ior dX5_keepSnapshot_27 ?_
  refine sw_putf dX5_keepSnapshot_28 lp_X5_23 hc14 hk14 (fun _ _ => ⟨rfl, rfl⟩) ?_
  exact (sw_fg [true, true, true] rfl (k))
theorem b_X5_keepSnapshot_31  (hP : P (.inl none) h) : SW sc m_X5_keepSnapshot d rc rs 31 [none, none, none] [] h P := by
  exact sw_ret (v := none) dX5_keepSnapshot_31 rt_v hP
theorem b_X5_bringSnapshot_0 {r0 : Nat} {l1 : Int32} {r2 : Nat} {v3 : Int32} {g3 : ab_H} {fs3 : List Value} (hr3 : (h)[r0]? = some (5, fs3)) (hm3 : MSE m_X5_hasSnapshot d [.ref r0, .int l1] h (some (.int v3)) g3) (kt : v3 = 0 → SW sc m_X5_bringSnapshot (d + 1) rc rs 18 [none, none, none] [] g3 P) (kf : ¬ (v3 = 0) → SW sc m_X5_bringSnapshot (d + 1) rc rs 8 [some (.ref r0), some (.int l1), some (.ref r2)] [] g3 P) : SW sc m_X5_bringSnapshot (d + 1) rc rs 0 [some (.ref r0), some (.int l1), some (.ref r2)] [] h P := by
  refine sw_aload_n dX5_bringSnapshot_0 rfl ?_
  refine sw_iload_n dX5_bringSnapshot_1 rfl ?_
  refine sw_cV dX5_bringSnapshot_2 lv_X5_51 hm3 hr3 rfl (by decide) rfl rfl rfl (Nat.le_of_ble_eq_true rfl) (fun _ _ => rfl) rfl ?_
  show SW sc m_X5_bringSnapshot _ _ _ 5 [some (.ref r0), some (.int l1), some (.ref r2)] [.int v3] g3 P
  exact sw_if_eq dX5_bringSnapshot_5 (by decide) (fun q => (sw_fg [true, true, true] rfl (kt q))) (fun q => (kf q))
theorem b_X5_bringSnapshot_8 {r0 : Nat} {l1 : Int32} {r2 : Nat} {fs3 : List Value} {a3 : Nat} {vs5 : List Value} {a5 : Nat} {g6 : ab_H} {fs6 : List Value} (hc3 : (h)[r0]? = some (5, fs3)) (hv3 : fs3[1]? = some (.ref a3)) (hc5 : (h)[a3]? = some (104, vs5)) (ho5 : ¬ l1 < 0) (hi5 : vs5[l1.toNatClampNeg]? = some (.ref a5)) (hr6 : (h)[r2]? = some (3, fs6)) (hm6 : MSE m_X3_bringFrom d [.ref r2, .ref a5] h none g6) (k : SW sc m_X5_bringSnapshot (d + 1) rc rs 18 [none, none, none] [] g6 P) : SW sc m_X5_bringSnapshot (d + 1) rc rs 8 [some (.ref r0), some (.int l1), some (.ref r2)] [] h P := by
  refine sw_aload_n dX5_bringSnapshot_8 rfl ?_
  refine sw_aload_n dX5_bringSnapshot_9 rfl ?_
  refine sw_getf dX5_bringSnapshot_10 lf_X5_16 hc3 hv3 ?_
  refine sw_iload_n dX5_bringSnapshot_13 rfl ?_
  refine sw_aald dX5_bringSnapshot_14 hc5 ho5 hi5 ?_
  refine sw_cV dX5_bringSnapshot_15 lv_X5_44 hm6 hr6 rfl (by decide) rfl rfl rfl (Nat.le_of_ble_eq_true rfl) (fun _ _ => rfl) rfl ?_
  show SW sc m_X5_bringSnapshot _ _ _ 18 [some (.ref r0), some (.int l1), some (.ref r2)] [] g6 P
  exact (sw_fg [true, true, true] rfl (k))
theorem b_X5_bringSnapshot_18  (hP : P (.inl none) h) : SW sc m_X5_bringSnapshot d rc rs 18 [none, none, none] [] h P := by
  exact sw_ret (v := none) dX5_bringSnapshot_18 rt_v hP
theorem b_X6_readText_0 {r0 : Nat} {fs3 : List Value} {fs6 : List Value} {g8 : ab_H} {fs8 : List Value} {v10 : Int32} {g10 : ab_H} {fs10 : List Value} (hc3 : (h)[r0]? = some (6, fs3)) (hk3 : 4 < fs3.length) (hc6 : ((h).set r0 (6, fs3.set 4 (.int 0)))[r0]? = some (6, fs6)) (hk6 : 7 < fs6.length) (hr8 : (((h).set r0 (6, fs3.set 4 (.int 0))).set r0 (6, fs6.set 7 (.int 0)))[r0]? = some (6, fs8)) (hm8 : MSE m_X6_advance d [.ref r0] (((h).set r0 (6, fs3.set 4 (.int 0))).set r0 (6, fs6.set 7 (.int 0))) none g8) (hr10 : (g8)[r0]? = some (6, fs10)) (hm10 : MSE m_X6_readVertices d [.ref r0] g8 (some (.int v10)) g10) (k : SW sc m_X6_readText (d + 1) rc rs 21 [some (.ref r0), some (.int v10), some (.int 0)] [] g10 P) : SW sc m_X6_readText (d + 1) rc rs 0 [some (.ref r0), none, none] [] h P := by
  refine sw_aload_n dX6_readText_0 rfl ?_
  refine sw_iconst (v := 0) dX6_readText_1 (by decide) ?_
  refine sw_putf dX6_readText_2 lp_X6_32 hc3 hk3 (fun _ _ => ⟨rfl, rfl⟩) ?_
  refine sw_aload_n dX6_readText_5 rfl ?_
  refine sw_iconst (v := 0) dX6_readText_6 (by decide) ?_
  refine sw_putf dX6_readText_7 lp_X6_36 hc6 hk6 (fun _ _ => ⟨rfl, rfl⟩) ?_
  refine sw_aload_n dX6_readText_10 rfl ?_
  refine sw_cV dX6_readText_11 lv_X6_39 hm8 hr8 rfl (by decide) rfl rfl rfl (Nat.le_of_ble_eq_true rfl) (fun _ _ => rfl) rfl ?_
  show SW sc m_X6_readText _ _ _ 14 [some (.ref r0), none, none] [] g8 P
  refine sw_aload_n dX6_readText_14 rfl ?_
  refine sw_cV dX6_readText_15 lv_X6_42 hm10 hr10 rfl (by decide) rfl rfl rfl (Nat.le_of_ble_eq_true rfl) (fun _ _ => rfl) rfl ?_
  show SW sc m_X6_readText _ _ _ 18 [some (.ref r0), none, none] [.int v10] g10 P
  refine sw_istore_n dX6_readText_18 (by decide) rfl ?_
  show SW sc m_X6_readText _ _ _ 19 [some (.ref r0), some (.int v10), none] [] g10 P
  refine sw_iconst (v := 0) dX6_readText_19 (by decide) ?_
  refine sw_istore_n dX6_readText_20 (by decide) rfl ?_
  show SW sc m_X6_readText _ _ _ 21 [some (.ref r0), some (.int v10), some (.int 0)] [] g10 P
  exact (k)
theorem b_X6_readText_21 {r0 : Nat} {l1 : Int32} {l2 : Int32} (kt : 400 ≤ l2 → SW sc m_X6_readText d rc rs 65 [some (.ref r0), none, none] [] h P) (kf : ¬ (400 ≤ l2) → SW sc m_X6_readText d rc rs 28 [some (.ref r0), some (.int l1), some (.int l2)] [] h P) : SW sc m_X6_readText d rc rs 21 [some (.ref r0), some (.int l1), some (.int l2)] [] h P := by
  refine sw_iload_n dX6_readText_21 rfl ?_
  refine sw_sipush (v := 400) dX6_readText_22 (by decide) ?_
  exact sw_icmp_ge dX6_readText_25 (by decide) (fun q => (sw_fg [false, true, true] rfl (kt q))) (fun q => (kf q))
theorem b_X6_readText_28 {r0 : Nat} {l1 : Int32} {l2 : Int32} (kt : l1 = 0 → SW sc m_X6_readText d rc rs 65 [some (.ref r0), none, none] [] h P) (kf : ¬ (l1 = 0) → SW sc m_X6_readText d rc rs 32 [some (.ref r0), none, some (.int l2)] [] h P) : SW sc m_X6_readText d rc rs 28 [some (.ref r0), some (.int l1), some (.int l2)] [] h P := by
  refine sw_iload_n dX6_readText_28 rfl ?_
  exact sw_if_eq dX6_readText_29 (by decide) (fun q => (sw_fg [false, true, true] rfl (kt q))) (fun q => (sw_fg [false, true, false] rfl (kf q)))
theorem b_X6_readText_32 {r0 : Nat} {l2 : Int32} {fs2 : List Value} {x2 : Int32} (hc2 : (h)[r0]? = some (6, fs2)) (hv2 : fs2[5]? = some (.int x2)) (kt : x2 = 0 → SW sc m_X6_readText d rc rs 65 [some (.ref r0), none, none] [] h P) (kf : ¬ (x2 = 0) → SW sc m_X6_readText d rc rs 39 [some (.ref r0), none, some (.int l2)] [] h P) : SW sc m_X6_readText d rc rs 32 [some (.ref r0), none, some (.int l2)] [] h P := by
  refine sw_aload_n dX6_readText_32 rfl ?_
  refine sw_getf dX6_readText_33 lf_X6_46 hc2 hv2 ?_
  exact sw_if_eq dX6_readText_36 (by decide) (fun q => (sw_fg [false, false, true] rfl (kt q))) (fun q => (kf q))
theorem b_X6_readText_39 {r0 : Nat} {l2 : Int32} {v2 : Int32} {g2 : ab_H} {fs2 : List Value} (hr2 : (h)[r0]? = some (6, fs2)) (hm2 : MSE m_X6_readStatement d [.ref r0] h (some (.int v2)) g2) (kt : v2 = 0 → SW sc m_X6_readText (d + 1) rc rs 57 [some (.ref r0), none, some (.int l2)] [] g2 P) (kf : ¬ (v2 = 0) → SW sc m_X6_readText (d + 1) rc rs 46 [some (.ref r0), none, some (.int l2)] [] g2 P) : SW sc m_X6_readText (d + 1) rc rs 39 [some (.ref r0), none, some (.int l2)] [] h P := by
  refine sw_aload_n dX6_readText_39 rfl ?_
  refine sw_cV dX6_readText_40 lv_X6_49 hm2 hr2 rfl (by decide) rfl rfl rfl (Nat.le_of_ble_eq_true rfl) (fun _ _ => rfl) rfl ?_
  show SW sc m_X6_readText _ _ _ 43 [some (.ref r0), none, some (.int l2)] [.int v2] g2 P
  exact sw_if_eq dX6_readText_43 (by decide) (fun q => (kt q)) (fun q => (kf q))
theorem b_X6_readText_46 {r0 : Nat} {l2 : Int32} {v2 : Int32} {g2 : ab_H} {fs2 : List Value} (hr2 : (h)[r0]? = some (6, fs2)) (hm2 : MSE m_X6_endStatement d [.ref r0] h (some (.int v2)) g2) (kt : v2 = 0 → SW sc m_X6_readText (d + 1) rc rs 57 [some (.ref r0), none, some (.int l2)] [] g2 P) (kf : ¬ (v2 = 0) → SW sc m_X6_readText (d + 1) rc rs 53 [some (.ref r0), none, some (.int l2)] [] g2 P) : SW sc m_X6_readText (d + 1) rc rs 46 [some (.ref r0), none, some (.int l2)] [] h P := by
  refine sw_aload_n dX6_readText_46 rfl ?_
  refine sw_cV dX6_readText_47 lv_X6_52 hm2 hr2 rfl (by decide) rfl rfl rfl (Nat.le_of_ble_eq_true rfl) (fun _ _ => rfl) rfl ?_
  show SW sc m_X6_readText _ _ _ 50 [some (.ref r0), none, some (.int l2)] [.int v2] g2 P
  exact sw_if_eq dX6_readText_50 (by decide) (fun q => (kt q)) (fun q => (kf q))
theorem b_X6_readText_53 {r0 : Nat} {l2 : Int32} (k : SW sc m_X6_readText d rc rs 58 [some (.ref r0), none, some (.int l2)] [.int 1] h P) : SW sc m_X6_readText d rc rs 53 [some (.ref r0), none, some (.int l2)] [] h P := by
  refine sw_iconst (v := 1) dX6_readText_53 (by decide) ?_
  exact sw_goto dX6_readText_54 (by decide) (k)
theorem b_X6_readText_57 {r0 : Nat} {l2 : Int32} (k : SW sc m_X6_readText d rc rs 58 [some (.ref r0), none, some (.int l2)] [.int 0] h P) : SW sc m_X6_readText d rc rs 57 [some (.ref r0), none, some (.int l2)] [] h P := by
  refine sw_iconst (v := 0) dX6_readText_57 (by decide) ?_
  exact (k)
theorem b_X6_readText_58 {r0 : Nat} {l2 : Int32} {s0 : Int32} (k : SW sc m_X6_readText d rc rs 21 [some (.ref r0), some (.int s0), some (.int (l2 + 1))] [] h P) : SW sc m_X6_readText d rc rs 58 [some (.ref r0), none, some (.int l2)] [.int s0] h P := by
  refine sw_istore_n dX6_readText_58 (by decide) rfl ?_
  show SW sc m_X6_readText _ _ _ 59 [some (.ref r0), some (.int s0), some (.int l2)] [] h P
  refine sw_iinc (v := l2 + 1) dX6_readText_59 rfl rfl (by decide) rfl ?_
  show SW sc m_X6_readText _ _ _ 62 [some (.ref r0), some (.int s0), some (.int (l2 + 1))] [] h P
  exact sw_goto dX6_readText_62 (by decide) (k)
theorem b_X6_readText_65 {r0 : Nat} {fs2 : List Value} {x2 : Int32} (hc2 : (h)[r0]? = some (6, fs2)) (hv2 : fs2[7]? = some (.int x2)) (hP : P (.inl (some (.int x2))) h) : SW sc m_X6_readText d rc rs 65 [some (.ref r0), none, none] [] h P := by
  refine sw_aload_n dX6_readText_65 rfl ?_
  refine sw_getf dX6_readText_66 lf_X6_36 hc2 hv2 ?_
  exact sw_ret (v := (some (.int x2))) dX6_readText_69 rt_i hP
theorem b_X6_readVertices_0 {r0 : Nat} {v3 : Int32} {g3 : ab_H} {fs3 : List Value} (hr3 : (h)[r0]? = some (6, fs3)) (hm3 : MSE m_X6_isWord d [.ref r0, .retAddr 0] h (some (.int v3)) g3) (kt : ¬ v3 = 0 → SW sc m_X6_readVertices (d + 1) rc rs 15 [some (.ref r0)] [] g3 P) (kf : v3 = 0 → SW sc m_X6_readVertices (d + 1) rc rs 9 [some (.ref r0)] [] g3 P) : SW sc m_X6_readVertices (d + 1) rc rs 0 [some (.ref r0)] [] h P := by
  refine sw_aload_n dX6_readVertices_0 rfl ?_
  refine sw_ldc (t := 0) dX6_readVertices_1 sr_X6_55 rfl ?_
  refine sw_cV dX6_readVertices_3 lv_X6_57 hm3 hr3 rfl (by decide) rfl rfl rfl (Nat.le_of_ble_eq_true rfl) (fun _ _ => rfl) rfl ?_
  show SW sc m_X6_readVertices _ _ _ 6 [some (.ref r0)] [.int v3] g3 P
  exact sw_if_ne dX6_readVertices_6 (by decide) (fun q => (kt q)) (fun q => (kf q))
theorem b_X6_readVertices_9 {r0 : Nat} {v3 : Int32} {g3 : ab_H} {fs3 : List Value} (hr3 : (h)[r0]? = some (6, fs3)) (hm3 : MSE m_X6_fail d [.ref r0, .int 1] h (some (.int v3)) g3) (hz4 : narrow .boolean (.int v3) = .int v3) (hP : P (.inl (some (.int v3))) g3) : SW sc m_X6_readVertices (d + 1) rc rs 9 [some (.ref r0)] [] h P := by
  refine sw_aload_n dX6_readVertices_9 rfl ?_
  refine sw_iconst (v := 1) dX6_readVertices_10 (by decide) ?_
  refine sw_cV dX6_readVertices_11 lv_X6_61 hm3 hr3 rfl (by decide) rfl rfl rfl (Nat.le_of_ble_eq_true rfl) (fun _ _ => rfl) rfl ?_
  show SW sc m_X6_readVertices _ _ _ 14 [some (.ref r0)] [.int v3] g3 P
  exact sw_ret (v := (some (.int v3))) dX6_readVertices_14 (rt_n hz4) hP
theorem b_X6_readVertices_15 {r0 : Nat} {g2 : ab_H} {fs2 : List Value} {v6 : Int32} {g6 : ab_H} {fs6 : List Value} (hr2 : (h)[r0]? = some (6, fs2)) (hm2 : MSE m_X6_advance d [.ref r0] h none g2) (hr6 : (g2)[r0]? = some (6, fs6)) (hm6 : MSE m_X6_needNumber d [.ref r0, .int 1, .int 10] g2 (some (.int v6)) g6) (kt : ¬ v6 = 0 → SW sc m_X6_readVertices (d + 1) rc rs 31 [some (.ref r0)] [] g6 P) (kf : v6 = 0 → SW sc m_X6_readVertices (d + 1) rc rs 29 [none] [] g6 P) : SW sc m_X6_readVertices (d + 1) rc rs 15 [some (.ref r0)] [] h P := by
  refine sw_aload_n dX6_readVertices_15 rfl ?_
  refine sw_cV dX6_readVertices_16 lv_X6_39 hm2 hr2 rfl (by decide) rfl rfl rfl (Nat.le_of_ble_eq_true rfl) (fun _ _ => rfl) rfl ?_
  show SW sc m_X6_readVertices _ _ _ 19 [some (.ref r0)] [] g2 P
  refine sw_aload_n dX6_readVertices_19 rfl ?_
  refine sw_iconst (v := 1) dX6_readVertices_20 (by decide) ?_
  refine sw_bipush (v := 10) dX6_readVertices_21 (by decide) ?_
  refine sw_cV dX6_readVertices_23 lv_X6_65 hm6 hr6 rfl (by decide) rfl rfl rfl (Nat.le_of_ble_eq_true rfl) (fun _ _ => rfl) rfl ?_
  show SW sc m_X6_readVertices _ _ _ 26 [some (.ref r0)] [.int v6] g6 P
  exact sw_if_ne dX6_readVertices_26 (by decide) (fun q => (kt q)) (fun q => (sw_fg [true] rfl (kf q)))
theorem b_X6_readVertices_29  (hP : P (.inl (some (.int 0))) h) : SW sc m_X6_readVertices d rc rs 29 [none] [] h P := by
  refine sw_iconst (v := 0) dX6_readVertices_29 (by decide) ?_
  exact sw_ret (v := (some (.int 0))) dX6_readVertices_30 (rt_n (by decide)) hP
theorem b_X6_readVertices_31 {r0 : Nat} {fs2 : List Value} {a2 : Nat} {fs4 : List Value} {x4 : Int32} {g5 : ab_H} {fs5 : List Value} {g7 : ab_H} {fs7 : List Value} {v9 : Int32} {g9 : ab_H} {fs9 : List Value} (hc2 : (h)[r0]? = some (6, fs2)) (hv2 : fs2[1]? = some (.ref a2)) (hc4 : (h)[r0]? = some (6, fs4)) (hv4 : fs4[6]? = some (.int x4)) (hr5 : (h)[a2]? = some (3, fs5)) (hm5 : MSE m_X3_clear d [.ref a2, .int x4] h none g5) (hr7 : (g5)[r0]? = some (6, fs7)) (hm7 : MSE m_X6_advance d [.ref r0] g5 none g7) (hr9 : (g7)[r0]? = some (6, fs9)) (hm9 : MSE m_X6_endStatement d [.ref r0] g7 (some (.int v9)) g9) (hz10 : narrow .boolean (.int v9) = .int v9) (hP : P (.inl (some (.int v9))) g9) : SW sc m_X6_readVertices (d + 1) rc rs 31 [some (.ref r0)] [] h P := by
  refine sw_aload_n dX6_readVertices_31 rfl ?_
  refine sw_getf dX6_readVertices_32 lf_X6_21 hc2 hv2 ?_
  refine sw_aload_n dX6_readVertices_35 rfl ?_
  refine sw_getf dX6_readVertices_36 lf_X6_69 hc4 hv4 ?_
  refine sw_cV dX6_readVertices_39 lv_X6_72 hm5 hr5 rfl (by decide) rfl rfl rfl (Nat.le_of_ble_eq_true rfl) (fun _ _ => rfl) rfl ?_
  show SW sc m_X6_readVertices _ _ _ 42 [some (.ref r0)] [] g5 P
  refine sw_aload_n dX6_readVertices_42 rfl ?_
  refine sw_cV dX6_readVertices_43 lv_X6_39 hm7 hr7 rfl (by decide) rfl rfl rfl (Nat.le_of_ble_eq_true rfl) (fun _ _ => rfl) rfl ?_
  show SW sc m_X6_readVertices _ _ _ 46 [some (.ref r0)] [] g7 P
  refine sw_aload_n dX6_readVertices_46 rfl ?_
  refine sw_cV dX6_readVertices_47 lv_X6_52 hm9 hr9 rfl (by decide) rfl rfl rfl (Nat.le_of_ble_eq_true rfl) (fun _ _ => rfl) rfl ?_
  show SW sc m_X6_readVertices _ _ _ 50 [some (.ref r0)] [.int v9] g9 P
  exact sw_ret (v := (some (.int v9))) dX6_readVertices_50 (rt_n hz10) hP
theorem b_X6_readStatement_0 {r0 : Nat} {v3 : Int32} {g3 : ab_H} {fs3 : List Value} (hr3 : (h)[r0]? = some (6, fs3)) (hm3 : MSE m_X6_isWord d [.ref r0, .retAddr 1] h (some (.int v3)) g3) (kt : v3 = 0 → SW sc m_X6_readStatement (d + 1) rc rs 16 [some (.ref r0)] [] g3 P) (kf : ¬ (v3 = 0) → SW sc m_X6_readStatement (d + 1) rc rs 9 [some (.ref r0)] [] g3 P) : SW sc m_X6_readStatement (d + 1) rc rs 0 [some (.ref r0)] [] h P := by
  refine sw_aload_n dX6_readStatement_0 rfl ?_
  refine sw_ldc (t := 1) dX6_readStatement_1 sr_X6_76 rfl ?_
  refine sw_cV dX6_readStatement_3 lv_X6_57 hm3 hr3 rfl (by decide) rfl rfl rfl (Nat.le_of_ble_eq_true rfl) (fun _ _ => rfl) rfl ?_
  show SW sc m_X6_readStatement _ _ _ 6 [some (.ref r0)] [.int v3] g3 P
  exact sw_if_eq dX6_readStatement_6 (by decide) (fun q => (kt q)) (fun q => (kf q))
theorem b_X6_readStatement_9 {r0 : Nat} {v4 : Int32} {g4 : ab_H} {fs4 : List Value} (hr4 : (h)[r0]? = some (6, fs4)) (hm4 : MSE m_X6_readEdges d [.ref r0, .int 0, .int 1] h (some (.int v4)) g4) (hz5 : narrow .boolean (.int v4) = .int v4) (hP : P (.inl (some (.int v4))) g4) : SW sc m_X6_readStatement (d + 1) rc rs 9 [some (.ref r0)] [] h P := by
  refine sw_aload_n dX6_readStatement_9 rfl ?_
  refine sw_iconst (v := 0) dX6_readStatement_10 (by decide) ?_
  refine sw_iconst (v := 1) dX6_readStatement_11 (by decide) ?_
  refine sw_cV dX6_readStatement_12 lv_X6_78 hm4 hr4 rfl (by decide) rfl rfl rfl (Nat.le_of_ble_eq_true rfl) (fun _ _ => rfl) rfl ?_
  show SW sc m_X6_readStatement _ _ _ 15 [some (.ref r0)] [.int v4] g4 P
  exact sw_ret (v := (some (.int v4))) dX6_readStatement_15 (rt_n hz5) hP
theorem b_X6_readStatement_16 {r0 : Nat} {v3 : Int32} {g3 : ab_H} {fs3 : List Value} (hr3 : (h)[r0]? = some (6, fs3)) (hm3 : MSE m_X6_isWord d [.ref r0, .retAddr 2] h (some (.int v3)) g3) (kt : v3 = 0 → SW sc m_X6_readStatement (d + 1) rc rs 33 [some (.ref r0)] [] g3 P) (kf : ¬ (v3 = 0) → SW sc m_X6_readStatement (d + 1) rc rs 25 [some (.ref r0)] [] g3 P) : SW sc m_X6_readStatement (d + 1) rc rs 16 [some (.ref r0)] [] h P := by
  refine sw_aload_n dX6_readStatement_16 rfl ?_
  refine sw_ldc (t := 2) dX6_readStatement_17 sr_X6_82 rfl ?_
  refine sw_cV dX6_readStatement_19 lv_X6_57 hm3 hr3 rfl (by decide) rfl rfl rfl (Nat.le_of_ble_eq_true rfl) (fun _ _ => rfl) rfl ?_
  show SW sc m_X6_readStatement _ _ _ 22 [some (.ref r0)] [.int v3] g3 P
  exact sw_if_eq dX6_readStatement_22 (by decide) (fun q => (kt q)) (fun q => (kf q))
theorem b_X6_readStatement_25 {r0 : Nat} {v4 : Int32} {g4 : ab_H} {fs4 : List Value} (hr4 : (h)[r0]? = some (6, fs4)) (hm4 : MSE m_X6_readEdges d [.ref r0, .int 0, .int 10] h (some (.int v4)) g4) (hz5 : narrow .boolean (.int v4) = .int v4) (hP : P (.inl (some (.int v4))) g4) : SW sc m_X6_readStatement (d + 1) rc rs 25 [some (.ref r0)] [] h P := by
  refine sw_aload_n dX6_readStatement_25 rfl ?_
  refine sw_iconst (v := 0) dX6_readStatement_26 (by decide) ?_
  refine sw_bipush (v := 10) dX6_readStatement_27 (by decide) ?_
  refine sw_cV dX6_readStatement_29 lv_X6_78 hm4 hr4 rfl (by decide) rfl rfl rfl (Nat.le_of_ble_eq_true rfl) (fun _ _ => rfl) rfl ?_
  show SW sc m_X6_readStatement _ _ _ 32 [some (.ref r0)] [.int v4] g4 P
  exact sw_ret (v := (some (.int v4))) dX6_readStatement_32 (rt_n hz5) hP
theorem b_X6_readStatement_33 {r0 : Nat} {v3 : Int32} {g3 : ab_H} {fs3 : List Value} (hr3 : (h)[r0]? = some (6, fs3)) (hm3 : MSE m_X6_isWord d [.ref r0, .retAddr 3] h (some (.int v3)) g3) (kt : v3 = 0 → SW sc m_X6_readStatement (d + 1) rc rs 50 [some (.ref r0)] [] g3 P) (kf : ¬ (v3 = 0) → SW sc m_X6_readStatement (d + 1) rc rs 42 [some (.ref r0)] [] g3 P) : SW sc m_X6_readStatement (d + 1) rc rs 33 [some (.ref r0)] [] h P := by
  refine sw_aload_n dX6_readStatement_33 rfl ?_
  refine sw_ldc (t := 3) dX6_readStatement_34 sr_X6_84 rfl ?_
  refine sw_cV dX6_readStatement_36 lv_X6_57 hm3 hr3 rfl (by decide) rfl rfl rfl (Nat.le_of_ble_eq_true rfl) (fun _ _ => rfl) rfl ?_
  show SW sc m_X6_readStatement _ _ _ 39 [some (.ref r0)] [.int v3] g3 P
  exact sw_if_eq dX6_readStatement_39 (by decide) (fun q => (kt q)) (fun q => (kf q))
theorem b_X6_readStatement_42 {r0 : Nat} {v4 : Int32} {g4 : ab_H} {fs4 : List Value} (hr4 : (h)[r0]? = some (6, fs4)) (hm4 : MSE m_X6_readEdges d [.ref r0, .int 1, .int 10] h (some (.int v4)) g4) (hz5 : narrow .boolean (.int v4) = .int v4) (hP : P (.inl (some (.int v4))) g4) : SW sc m_X6_readStatement (d + 1) rc rs 42 [some (.ref r0)] [] h P := by
  refine sw_aload_n dX6_readStatement_42 rfl ?_
  refine sw_iconst (v := 1) dX6_readStatement_43 (by decide) ?_
  refine sw_bipush (v := 10) dX6_readStatement_44 (by decide) ?_
  refine sw_cV dX6_readStatement_46 lv_X6_78 hm4 hr4 rfl (by decide) rfl rfl rfl (Nat.le_of_ble_eq_true rfl) (fun _ _ => rfl) rfl ?_
  show SW sc m_X6_readStatement _ _ _ 49 [some (.ref r0)] [.int v4] g4 P
  exact sw_ret (v := (some (.int v4))) dX6_readStatement_49 (rt_n hz5) hP
theorem b_X6_readStatement_50 {r0 : Nat} {v3 : Int32} {g3 : ab_H} {fs3 : List Value} (hr3 : (h)[r0]? = some (6, fs3)) (hm3 : MSE m_X6_isWord d [.ref r0, .retAddr 4] h (some (.int v3)) g3) (kt : v3 = 0 → SW sc m_X6_readStatement (d + 1) rc rs 64 [some (.ref r0)] [] g3 P) (kf : ¬ (v3 = 0) → SW sc m_X6_readStatement (d + 1) rc rs 59 [some (.ref r0)] [] g3 P) : SW sc m_X6_readStatement (d + 1) rc rs 50 [some (.ref r0)] [] h P := by
  refine sw_aload_n dX6_readStatement_50 rfl ?_
  refine sw_ldc (t := 4) dX6_readStatement_51 sr_X6_86 rfl ?_
  refine sw_cV dX6_readStatement_53 lv_X6_57 hm3 hr3 rfl (by decide) rfl rfl rfl (Nat.le_of_ble_eq_true rfl) (fun _ _ => rfl) rfl ?_
  show SW sc m_X6_readStatement _ _ _ 56 [some (.ref r0)] [.int v3] g3 P
  exact sw_if_eq dX6_readStatement_56 (by decide) (fun q => (kt q)) (fun q => (kf q))
theorem b_X6_readStatement_59 {r0 : Nat} {v2 : Int32} {g2 : ab_H} {fs2 : List Value} (hr2 : (h)[r0]? = some (6, fs2)) (hm2 : MSE m_X6_readCode d [.ref r0] h (some (.int v2)) g2) (hz3 : narrow .boolean (.int v2) = .int v2) (hP : P (.inl (some (.int v2))) g2) : SW sc m_X6_readStatement (d + 1) rc rs 59 [some (.ref r0)] [] h P := by
  refine sw_aload_n dX6_readStatement_59 rfl ?_
  refine sw_cV dX6_readStatement_60 lv_X6_88 hm2 hr2 rfl (by decide) rfl rfl rfl (Nat.le_of_ble_eq_true rfl) (fun _ _ => rfl) rfl ?_
  show SW sc m_X6_readStatement _ _ _ 63 [some (.ref r0)] [.int v2] g2 P
  exact sw_ret (v := (some (.int v2))) dX6_readStatement_63 (rt_n hz3) hP
theorem b_X6_readStatement_64 {r0 : Nat} {v3 : Int32} {g3 : ab_H} {fs3 : List Value} (hr3 : (h)[r0]? = some (6, fs3)) (hm3 : MSE m_X6_isWord d [.ref r0, .retAddr 5] h (some (.int v3)) g3) (kt : v3 = 0 → SW sc m_X6_readStatement (d + 1) rc rs 80 [some (.ref r0)] [] g3 P) (kf : ¬ (v3 = 0) → SW sc m_X6_readStatement (d + 1) rc rs 73 [some (.ref r0)] [] g3 P) : SW sc m_X6_readStatement (d + 1) rc rs 64 [some (.ref r0)] [] h P := by
  refine sw_aload_n dX6_readStatement_64 rfl ?_
  refine sw_ldc (t := 5) dX6_readStatement_65 sr_X6_91 rfl ?_
  refine sw_cV dX6_readStatement_67 lv_X6_57 hm3 hr3 rfl (by decide) rfl rfl rfl (Nat.le_of_ble_eq_true rfl) (fun _ _ => rfl) rfl ?_
  show SW sc m_X6_readStatement _ _ _ 70 [some (.ref r0)] [.int v3] g3 P
  exact sw_if_eq dX6_readStatement_70 (by decide) (fun q => (kt q)) (fun q => (kf q))
theorem b_X6_readStatement_73 {r0 : Nat} {v2 : Int32} {g2 : ab_H} {fs2 : List Value} (hr2 : (h)[r0]? = some (6, fs2)) (hm2 : MSE m_X6_readWeight d [.ref r0] h (some (.int v2)) g2) (k : SW sc m_X6_readStatement (d + 1) rc rs 85 [none] [.int v2] g2 P) : SW sc m_X6_readStatement (d + 1) rc rs 73 [some (.ref r0)] [] h P := by
  refine sw_aload_n dX6_readStatement_73 rfl ?_
  refine sw_cV dX6_readStatement_74 lv_X6_93 hm2 hr2 rfl (by decide) rfl rfl rfl (Nat.le_of_ble_eq_true rfl) (fun _ _ => rfl) rfl ?_
  show SW sc m_X6_readStatement _ _ _ 77 [some (.ref r0)] [.int v2] g2 P
  exact sw_goto dX6_readStatement_77 (by decide) (sw_fg [true] rfl (k))
theorem b_X6_readStatement_80 {r0 : Nat} {v3 : Int32} {g3 : ab_H} {fs3 : List Value} (hr3 : (h)[r0]? = some (6, fs3)) (hm3 : MSE m_X6_fail d [.ref r0, .int 1] h (some (.int v3)) g3) (k : SW sc m_X6_readStatement (d + 1) rc rs 85 [none] [.int v3] g3 P) : SW sc m_X6_readStatement (d + 1) rc rs 80 [some (.ref r0)] [] h P := by
  refine sw_aload_n dX6_readStatement_80 rfl ?_
  refine sw_iconst (v := 1) dX6_readStatement_81 (by decide) ?_
  refine sw_cV dX6_readStatement_82 lv_X6_61 hm3 hr3 rfl (by decide) rfl rfl rfl (Nat.le_of_ble_eq_true rfl) (fun _ _ => rfl) rfl ?_
  show SW sc m_X6_readStatement _ _ _ 85 [some (.ref r0)] [.int v3] g3 P
  exact (sw_fg [true] rfl (k))
theorem b_X6_readStatement_85 {s0 : Int32} (hz1 : narrow .boolean (.int s0) = .int s0) (hP : P (.inl (some (.int s0))) h) : SW sc m_X6_readStatement d rc rs 85 [none] [.int s0] h P := by
  exact sw_ret (v := (some (.int s0))) dX6_readStatement_85 (rt_n hz1) hP
theorem b_X6_endStatement_0 {r0 : Nat} {fs2 : List Value} {x2 : Int32} (hc2 : (h)[r0]? = some (6, fs2)) (hv2 : fs2[5]? = some (.int x2)) (kt : x2 = 3 → SW sc m_X6_endStatement d rc rs 14 [some (.ref r0)] [] h P) (kf : ¬ (x2 = 3) → SW sc m_X6_endStatement d rc rs 8 [some (.ref r0)] [] h P) : SW sc m_X6_endStatement d rc rs 0 [some (.ref r0)] [] h P := by
  refine sw_aload_n dX6_endStatement_0 rfl ?_
  refine sw_getf dX6_endStatement_1 lf_X6_46 hc2 hv2 ?_
  refine sw_iconst (v := 3) dX6_endStatement_4 (by decide) ?_
  exact sw_icmp_eq dX6_endStatement_5 (by decide) (fun q => (kt q)) (fun q => (kf q))
theorem b_X6_endStatement_8 {r0 : Nat} {v3 : Int32} {g3 : ab_H} {fs3 : List Value} (hr3 : (h)[r0]? = some (6, fs3)) (hm3 : MSE m_X6_fail d [.ref r0, .int 1] h (some (.int v3)) g3) (hz4 : narrow .boolean (.int v3) = .int v3) (hP : P (.inl (some (.int v3))) g3) : SW sc m_X6_endStatement (d + 1) rc rs 8 [some (.ref r0)] [] h P := by
  refine sw_aload_n dX6_endStatement_8 rfl ?_
  refine sw_iconst (v := 1) dX6_endStatement_9 (by decide) ?_
  refine sw_cV dX6_endStatement_10 lv_X6_61 hm3 hr3 rfl (by decide) rfl rfl rfl (Nat.le_of_ble_eq_true rfl) (fun _ _ => rfl) rfl ?_
  show SW sc m_X6_endStatement _ _ _ 13 [some (.ref r0)] [.int v3] g3 P
  exact sw_ret (v := (some (.int v3))) dX6_endStatement_13 (rt_n hz4) hP
theorem b_X6_endStatement_14 {r0 : Nat} {g2 : ab_H} {fs2 : List Value} (hr2 : (h)[r0]? = some (6, fs2)) (hm2 : MSE m_X6_advance d [.ref r0] h none g2) (hP : P (.inl (some (.int 1))) g2) : SW sc m_X6_endStatement (d + 1) rc rs 14 [some (.ref r0)] [] h P := by
  refine sw_aload_n dX6_endStatement_14 rfl ?_
  refine sw_cV dX6_endStatement_15 lv_X6_39 hm2 hr2 rfl (by decide) rfl rfl rfl (Nat.le_of_ble_eq_true rfl) (fun _ _ => rfl) rfl ?_
  show SW sc m_X6_endStatement _ _ _ 18 [some (.ref r0)] [] g2 P
  refine sw_iconst (v := 1) dX6_endStatement_18 (by decide) ?_
  exact sw_ret (v := (some (.int 1))) dX6_endStatement_19 (rt_n (by decide)) hP
theorem b_X6_readEdges_0 {r0 : Nat} {l1 : Int32} {l2 : Int32} {g2 : ab_H} {fs2 : List Value} {fs6 : List Value} {a6 : Nat} {fs7 : List Value} {x7 : Int32} {v10 : Int32} {g10 : ab_H} {fs10 : List Value} (hr2 : (h)[r0]? = some (6, fs2)) (hm2 : MSE m_X6_advance d [.ref r0] h none g2) (hc6 : (g2)[r0]? = some (6, fs6)) (hv6 : fs6[1]? = some (.ref a6)) (hc7 : (g2)[a6]? = some (3, fs7)) (hv7 : fs7[2]? = some (.int x7)) (hr10 : (g2)[r0]? = some (6, fs10)) (hm10 : MSE m_X6_needNumber d [.ref r0, .int 0, .int (x7 - 1)] g2 (some (.int v10)) g10) (kt : ¬ v10 = 0 → SW sc m_X6_readEdges (d + 1) rc rs 23 [some (.ref r0), some (.int l1), some (.int l2), none, none, none] [] g10 P) (kf : v10 = 0 → SW sc m_X6_readEdges (d + 1) rc rs 21 [none, none, none, none, none, none] [] g10 P) : SW sc m_X6_readEdges (d + 1) rc rs 0 [some (.ref r0), some (.int l1), some (.int l2), none, none, none] [] h P := by
  refine sw_aload_n dX6_readEdges_0 rfl ?_
  refine sw_cV dX6_readEdges_1 lv_X6_39 hm2 hr2 rfl (by decide) rfl rfl rfl (Nat.le_of_ble_eq_true rfl) (fun _ _ => rfl) rfl ?_
  show SW sc m_X6_readEdges _ _ _ 4 [some (.ref r0), some (.int l1), some (.int l2), none, none, none] [] g2 P
  refine sw_aload_n dX6_readEdges_4 rfl ?_
  refine sw_iconst (v := 0) dX6_readEdges_5 (by decide) ?_
  refine sw_aload_n dX6_readEdges_6 rfl ?_
  refine sw_getf dX6_readEdges_7 lf_X6_21 hc6 hv6 ?_
  refine sw_getf dX6_readEdges_10 lf_X6_96 hc7 hv7 ?_
  refine sw_iconst (v := 1) dX6_readEdges_13 (by decide) ?_
  refine sw_isub dX6_readEdges_14 ?_
  refine sw_cV dX6_readEdges_15 lv_X6_65 hm10 hr10 rfl (by decide) rfl rfl rfl (Nat.le_of_ble_eq_true rfl) (fun _ _ => rfl) rfl ?_
  show SW sc m_X6_readEdges _ _ _ 18 [some (.ref r0), some (.int l1), some (.int l2), none, none, none] [.int v10] g10 P
  exact sw_if_ne dX6_readEdges_18 (by decide) (fun q => (kt q)) (fun q => (sw_fg [true, true, true, false, false, false] rfl (kf q)))
theorem b_X6_readEdges_21  (hP : P (.inl (some (.int 0))) h) : SW sc m_X6_readEdges d rc rs 21 [none, none, none, none, none, none] [] h P := by
  refine sw_iconst (v := 0) dX6_readEdges_21 (by decide) ?_
  exact sw_ret (v := (some (.int 0))) dX6_readEdges_22 (rt_n (by decide)) hP
theorem b_X6_readEdges_23 {r0 : Nat} {l1 : Int32} {l2 : Int32} {fs2 : List Value} {x2 : Int32} {g5 : ab_H} {fs5 : List Value} (hc2 : (h)[r0]? = some (6, fs2)) (hv2 : fs2[6]? = some (.int x2)) (hr5 : (h)[r0]? = some (6, fs5)) (hm5 : MSE m_X6_advance d [.ref r0] h none g5) (k : SW sc m_X6_readEdges (d + 1) rc rs 35 [some (.ref r0), some (.int l1), some (.int l2), some (.int x2), some (.int 0), none] [] g5 P) : SW sc m_X6_readEdges (d + 1) rc rs 23 [some (.ref r0), some (.int l1), some (.int l2), none, none, none] [] h P := by
  refine sw_aload_n dX6_readEdges_23 rfl ?_
  refine sw_getf dX6_readEdges_24 lf_X6_69 hc2 hv2 ?_
  refine sw_istore_n dX6_readEdges_27 (by decide) rfl ?_
  show SW sc m_X6_readEdges _ _ _ 28 [some (.ref r0), some (.int l1), some (.int l2), some (.int x2), none, none] [] h P
  refine sw_aload_n dX6_readEdges_28 rfl ?_
  refine sw_cV dX6_readEdges_29 lv_X6_39 hm5 hr5 rfl (by decide) rfl rfl rfl (Nat.le_of_ble_eq_true rfl) (fun _ _ => rfl) rfl ?_
  show SW sc m_X6_readEdges _ _ _ 32 [some (.ref r0), some (.int l1), some (.int l2), some (.int x2), none, none] [] g5 P
  refine sw_iconst (v := 0) dX6_readEdges_32 (by decide) ?_
  refine sw_istore dX6_readEdges_33 (by decide) rfl ?_
  show SW sc m_X6_readEdges _ _ _ 35 [some (.ref r0), some (.int l1), some (.int l2), some (.int x2), some (.int 0), none] [] g5 P
  exact (k)
theorem b_X6_readEdges_35 {r0 : Nat} {l1 : Int32} {l2 : Int32} {l3 : Int32} {l4 : Int32} (kt : l2 ≤ l4 → SW sc m_X6_readEdges d rc rs 130 [none, none, none, none, none, none] [] h P) (kf : ¬ (l2 ≤ l4) → SW sc m_X6_readEdges d rc rs 41 [some (.ref r0), some (.int l1), some (.int l2), some (.int l3), some (.int l4), none] [] h P) : SW sc m_X6_readEdges d rc rs 35 [some (.ref r0), some (.int l1), some (.int l2), some (.int l3), some (.int l4), none] [] h P := by
  refine sw_iload dX6_readEdges_35 rfl ?_
  refine sw_iload_n dX6_readEdges_37 rfl ?_
  exact sw_icmp_ge dX6_readEdges_38 (by decide) (fun q => (sw_fg [true, true, true, true, true, false] rfl (kt q))) (fun q => (kf q))
theorem b_X6_readEdges_41 {r0 : Nat} {l1 : Int32} {l2 : Int32} {l3 : Int32} {l4 : Int32} (kt : l4 = 0 → SW sc m_X6_readEdges d rc rs 54 [some (.ref r0), some (.int l1), some (.int l2), some (.int l3), some (.int l4), none] [] h P) (kf : ¬ (l4 = 0) → SW sc m_X6_readEdges d rc rs 46 [some (.ref r0), some (.int l1), some (.int l2), some (.int l3), some (.int l4), none] [] h P) : SW sc m_X6_readEdges d rc rs 41 [some (.ref r0), some (.int l1), some (.int l2), some (.int l3), some (.int l4), none] [] h P := by
  refine sw_iload dX6_readEdges_41 rfl ?_
  exact sw_if_eq dX6_readEdges_43 (by decide) (fun q => (kt q)) (fun q => (kf q))
theorem b_X6_readEdges_46 {r0 : Nat} {l1 : Int32} {l2 : Int32} {l3 : Int32} {l4 : Int32} {fs2 : List Value} {x2 : Int32} (hc2 : (h)[r0]? = some (6, fs2)) (hv2 : fs2[5]? = some (.int x2)) (kt : ¬ x2 = 2 → SW sc m_X6_readEdges d rc rs 130 [none, none, none, none, none, none] [] h P) (kf : x2 = 2 → SW sc m_X6_readEdges d rc rs 54 [some (.ref r0), some (.int l1), some (.int l2), some (.int l3), some (.int l4), none] [] h P) : SW sc m_X6_readEdges d rc rs 46 [some (.ref r0), some (.int l1), some (.int l2), some (.int l3), some (.int l4), none] [] h P := by
  refine sw_aload_n dX6_readEdges_46 rfl ?_
  refine sw_getf dX6_readEdges_47 lf_X6_46 hc2 hv2 ?_
  refine sw_iconst (v := 2) dX6_readEdges_50 (by decide) ?_
  exact sw_icmp_ne dX6_readEdges_51 (by decide) (fun q => (sw_fg [true, true, true, true, true, false] rfl (kt q))) (fun q => (kf q))
theorem b_X6_readEdges_54 {r0 : Nat} {l1 : Int32} {l2 : Int32} {l3 : Int32} {l4 : Int32} {fs4 : List Value} {a4 : Nat} {fs5 : List Value} {x5 : Int32} {v8 : Int32} {g8 : ab_H} {fs8 : List Value} (hc4 : (h)[r0]? = some (6, fs4)) (hv4 : fs4[1]? = some (.ref a4)) (hc5 : (h)[a4]? = some (3, fs5)) (hv5 : fs5[2]? = some (.int x5)) (hr8 : (h)[r0]? = some (6, fs8)) (hm8 : MSE m_X6_needNumber d [.ref r0, .int 0, .int (x5 - 1)] h (some (.int v8)) g8) (kt : ¬ v8 = 0 → SW sc m_X6_readEdges (d + 1) rc rs 73 [some (.ref r0), some (.int l1), some (.int l2), some (.int l3), some (.int l4), none] [] g8 P) (kf : v8 = 0 → SW sc m_X6_readEdges (d + 1) rc rs 71 [none, none, none, none, none, none] [] g8 P) : SW sc m_X6_readEdges (d + 1) rc rs 54 [some (.ref r0), some (.int l1), some (.int l2), some (.int l3), some (.int l4), none] [] h P := by
  refine sw_aload_n dX6_readEdges_54 rfl ?_
  refine sw_iconst (v := 0) dX6_readEdges_55 (by decide) ?_
  refine sw_aload_n dX6_readEdges_56 rfl ?_
  refine sw_getf dX6_readEdges_57 lf_X6_21 hc4 hv4 ?_
  refine sw_getf dX6_readEdges_60 lf_X6_96 hc5 hv5 ?_
  refine sw_iconst (v := 1) dX6_readEdges_63 (by decide) ?_
  refine sw_isub dX6_readEdges_64 ?_
  refine sw_cV dX6_readEdges_65 lv_X6_65 hm8 hr8 rfl (by decide) rfl rfl rfl (Nat.le_of_ble_eq_true rfl) (fun _ _ => rfl) rfl ?_
  show SW sc m_X6_readEdges _ _ _ 68 [some (.ref r0), some (.int l1), some (.int l2), some (.int l3), some (.int l4), none] [.int v8] g8 P
  exact sw_if_ne dX6_readEdges_68 (by decide) (fun q => (kt q)) (fun q => (sw_fg [true, true, true, true, true, false] rfl (kf q)))
theorem b_X6_readEdges_71  (hP : P (.inl (some (.int 0))) h) : SW sc m_X6_readEdges d rc rs 71 [none, none, none, none, none, none] [] h P := by
  refine sw_iconst (v := 0) dX6_readEdges_71 (by decide) ?_
  exact sw_ret (v := (some (.int 0))) dX6_readEdges_72 (rt_n (by decide)) hP
theorem b_X6_readEdges_73 {r0 : Nat} {l1 : Int32} {l2 : Int32} {l3 : Int32} {l4 : Int32} {fs2 : List Value} {x2 : Int32} {fs5 : List Value} {a5 : Nat} {v8 : Int32} {g8 : ab_H} {fs8 : List Value} (hc2 : (h)[r0]? = some (6, fs2)) (hv2 : fs2[6]? = some (.int x2)) (hc5 : (h)[r0]? = some (6, fs5)) (hv5 : fs5[1]? = some (.ref a5)) (hr8 : (h)[a5]? = some (3, fs8)) (hm8 : MSE m_X3_steps d [.ref a5, .int l3, .int x2] h (some (.int v8)) g8) (kt : v8 = (-1) → SW sc m_X6_readEdges (d + 1) rc rs 99 [some (.ref r0), some (.int l1), some (.int l2), some (.int l3), some (.int l4), some (.int x2)] [] g8 P) (kf : ¬ (v8 = (-1)) → SW sc m_X6_readEdges (d + 1) rc rs 93 [some (.ref r0), none, none, none, none, none] [] g8 P) : SW sc m_X6_readEdges (d + 1) rc rs 73 [some (.ref r0), some (.int l1), some (.int l2), some (.int l3), some (.int l4), none] [] h P := by
  refine sw_aload_n dX6_readEdges_73 rfl ?_
  refine sw_getf dX6_readEdges_74 lf_X6_69 hc2 hv2 ?_
  refine sw_istore dX6_readEdges_77 (by decide) rfl ?_
  show SW sc m_X6_readEdges _ _ _ 79 [some (.ref r0), some (.int l1), some (.int l2), some (.int l3), some (.int l4), some (.int x2)] [] h P
  refine sw_aload_n dX6_readEdges_79 rfl ?_
  refine sw_getf dX6_readEdges_80 lf_X6_21 hc5 hv5 ?_
  refine sw_iload_n dX6_readEdges_83 rfl ?_
  refine sw_iload dX6_readEdges_84 rfl ?_
  refine sw_cV dX6_readEdges_86 lv_X6_99 hm8 hr8 rfl (by decide) rfl rfl rfl (Nat.le_of_ble_eq_true rfl) (fun _ _ => rfl) rfl ?_
  show SW sc m_X6_readEdges _ _ _ 89 [some (.ref r0), some (.int l1), some (.int l2), some (.int l3), some (.int l4), some (.int x2)] [.int v8] g8 P
  refine sw_iconst (v := (-1)) dX6_readEdges_89 (by decide) ?_
  exact sw_icmp_eq dX6_readEdges_90 (by decide) (fun q => (kt q)) (fun q => (sw_fg [false, true, true, true, true, true] rfl (kf q)))
theorem b_X6_readEdges_93 {r0 : Nat} {v3 : Int32} {g3 : ab_H} {fs3 : List Value} (hr3 : (h)[r0]? = some (6, fs3)) (hm3 : MSE m_X6_fail d [.ref r0, .int 3] h (some (.int v3)) g3) (hz4 : narrow .boolean (.int v3) = .int v3) (hP : P (.inl (some (.int v3))) g3) : SW sc m_X6_readEdges (d + 1) rc rs 93 [some (.ref r0), none, none, none, none, none] [] h P := by
  refine sw_aload_n dX6_readEdges_93 rfl ?_
  refine sw_iconst (v := 3) dX6_readEdges_94 (by decide) ?_
  refine sw_cV dX6_readEdges_95 lv_X6_61 hm3 hr3 rfl (by decide) rfl rfl rfl (Nat.le_of_ble_eq_true rfl) (fun _ _ => rfl) rfl ?_
  show SW sc m_X6_readEdges _ _ _ 98 [some (.ref r0), none, none, none, none, none] [.int v3] g3 P
  exact sw_ret (v := (some (.int v3))) dX6_readEdges_98 (rt_n hz4) hP
theorem b_X6_readEdges_99 {r0 : Nat} {l1 : Int32} {l2 : Int32} {l3 : Int32} {l4 : Int32} {l5 : Int32} {fs2 : List Value} {a2 : Nat} {g5 : ab_H} {fs5 : List Value} (hc2 : (h)[r0]? = some (6, fs2)) (hv2 : fs2[1]? = some (.ref a2)) (hr5 : (h)[a2]? = some (3, fs5)) (hm5 : MSE m_X3_join d [.ref a2, .int l3, .int l5] h none g5) (kt : l1 = 0 → SW sc m_X6_readEdges (d + 1) rc rs 117 [some (.ref r0), some (.int l1), some (.int l2), none, some (.int l4), some (.int l5)] [] g5 P) (kf : ¬ (l1 = 0) → SW sc m_X6_readEdges (d + 1) rc rs 113 [some (.ref r0), some (.int l1), some (.int l2), some (.int l3), some (.int l4), none] [] g5 P) : SW sc m_X6_readEdges (d + 1) rc rs 99 [some (.ref r0), some (.int l1), some (.int l2), some (.int l3), some (.int l4), some (.int l5)] [] h P := by
  refine sw_aload_n dX6_readEdges_99 rfl ?_
  refine sw_getf dX6_readEdges_100 lf_X6_21 hc2 hv2 ?_
  refine sw_iload_n dX6_readEdges_103 rfl ?_
  refine sw_iload dX6_readEdges_104 rfl ?_
  refine sw_cV dX6_readEdges_106 lv_X6_103 hm5 hr5 rfl (by decide) rfl rfl rfl (Nat.le_of_ble_eq_true rfl) (fun _ _ => rfl) rfl ?_
  show SW sc m_X6_readEdges _ _ _ 109 [some (.ref r0), some (.int l1), some (.int l2), some (.int l3), some (.int l4), some (.int l5)] [] g5 P
  refine sw_iload_n dX6_readEdges_109 rfl ?_
  exact sw_if_eq dX6_readEdges_110 (by decide) (fun q => (sw_fg [false, false, false, true, false, false] rfl (kt q))) (fun q => (sw_fg [false, false, false, false, false, true] rfl (kf q)))
theorem b_X6_readEdges_113 {r0 : Nat} {l1 : Int32} {l2 : Int32} {l3 : Int32} {l4 : Int32} (k : SW sc m_X6_readEdges d rc rs 119 [some (.ref r0), some (.int l1), some (.int l2), none, some (.int l4), none] [.int l3] h P) : SW sc m_X6_readEdges d rc rs 113 [some (.ref r0), some (.int l1), some (.int l2), some (.int l3), some (.int l4), none] [] h P := by
  refine sw_iload_n dX6_readEdges_113 rfl ?_
  exact sw_goto dX6_readEdges_114 (by decide) (sw_fg [false, false, false, true, false, false] rfl (k))
theorem b_X6_readEdges_117 {r0 : Nat} {l1 : Int32} {l2 : Int32} {l4 : Int32} {l5 : Int32} (k : SW sc m_X6_readEdges d rc rs 119 [some (.ref r0), some (.int l1), some (.int l2), none, some (.int l4), none] [.int l5] h P) : SW sc m_X6_readEdges d rc rs 117 [some (.ref r0), some (.int l1), some (.int l2), none, some (.int l4), some (.int l5)] [] h P := by
  refine sw_iload dX6_readEdges_117 rfl ?_
  exact (sw_fg [false, false, false, false, false, true] rfl (k))
theorem b_X6_readEdges_119 {r0 : Nat} {l1 : Int32} {l2 : Int32} {l4 : Int32} {s0 : Int32} {g3 : ab_H} {fs3 : List Value} (hr3 : (h)[r0]? = some (6, fs3)) (hm3 : MSE m_X6_advance d [.ref r0] h none g3) (k : SW sc m_X6_readEdges (d + 1) rc rs 35 [some (.ref r0), some (.int l1), some (.int l2), some (.int s0), some (.int (l4 + 1)), none] [] g3 P) : SW sc m_X6_readEdges (d + 1) rc rs 119 [some (.ref r0), some (.int l1), some (.int l2), none, some (.int l4), none] [.int s0] h P := by
  refine sw_istore_n dX6_readEdges_119 (by decide) rfl ?_
  show SW sc m_X6_readEdges _ _ _ 120 [some (.ref r0), some (.int l1), some (.int l2), some (.int s0), some (.int l4), none] [] h P
  refine sw_aload_n dX6_readEdges_120 rfl ?_
  refine sw_cV dX6_readEdges_121 lv_X6_39 hm3 hr3 rfl (by decide) rfl rfl rfl (Nat.le_of_ble_eq_true rfl) (fun _ _ => rfl) rfl ?_
  show SW sc m_X6_readEdges _ _ _ 124 [some (.ref r0), some (.int l1), some (.int l2), some (.int s0), some (.int l4), none] [] g3 P
  refine sw_iinc (v := l4 + 1) dX6_readEdges_124 rfl rfl (by decide) rfl ?_
  show SW sc m_X6_readEdges _ _ _ 127 [some (.ref r0), some (.int l1), some (.int l2), some (.int s0), some (.int (l4 + 1)), none] [] g3 P
  exact sw_goto dX6_readEdges_127 (by decide) (k)
theorem b_X6_readEdges_130  (hP : P (.inl (some (.int 1))) h) : SW sc m_X6_readEdges d rc rs 130 [none, none, none, none, none, none] [] h P := by
  refine sw_iconst (v := 1) dX6_readEdges_130 (by decide) ?_
  exact sw_ret (v := (some (.int 1))) dX6_readEdges_131 (rt_n (by decide)) hP
theorem b_X6_readCode_0 {r0 : Nat} {fs2 : List Value} {a2 : Nat} {v3 : Int32} {g3 : ab_H} {fs3 : List Value} (hc2 : (h)[r0]? = some (6, fs2)) (hv2 : fs2[1]? = some (.ref a2)) (hr3 : (h)[a2]? = some (3, fs3)) (hm3 : MSE m_X3_edges d [.ref a2] h (some (.int v3)) g3) (kt : v3 = 0 → SW sc m_X6_readCode (d + 1) rc rs 16 [some (.ref r0), none] [] g3 P) (kf : ¬ (v3 = 0) → SW sc m_X6_readCode (d + 1) rc rs 10 [some (.ref r0), none] [] g3 P) : SW sc m_X6_readCode (d + 1) rc rs 0 [some (.ref r0), none] [] h P := by
  refine sw_aload_n dX6_readCode_0 rfl ?_
  refine sw_getf dX6_readCode_1 lf_X6_21 hc2 hv2 ?_
  refine sw_cV dX6_readCode_4 lv_X6_107 hm3 hr3 rfl (by decide) rfl rfl rfl (Nat.le_of_ble_eq_true rfl) (fun _ _ => rfl) rfl ?_
  show SW sc m_X6_readCode _ _ _ 7 [some (.ref r0), none] [.int v3] g3 P
  exact sw_if_eq dX6_readCode_7 (by decide) (fun q => (kt q)) (fun q => (kf q))
theorem b_X6_readCode_10 {r0 : Nat} {v3 : Int32} {g3 : ab_H} {fs3 : List Value} (hr3 : (h)[r0]? = some (6, fs3)) (hm3 : MSE m_X6_fail d [.ref r0, .int 4] h (some (.int v3)) g3) (hz4 : narrow .boolean (.int v3) = .int v3) (hP : P (.inl (some (.int v3))) g3) : SW sc m_X6_readCode (d + 1) rc rs 10 [some (.ref r0), none] [] h P := by
  refine sw_aload_n dX6_readCode_10 rfl ?_
  refine sw_iconst (v := 4) dX6_readCode_11 (by decide) ?_
  refine sw_cV dX6_readCode_12 lv_X6_61 hm3 hr3 rfl (by decide) rfl rfl rfl (Nat.le_of_ble_eq_true rfl) (fun _ _ => rfl) rfl ?_
  show SW sc m_X6_readCode _ _ _ 15 [some (.ref r0), none] [.int v3] g3 P
  exact sw_ret (v := (some (.int v3))) dX6_readCode_15 (rt_n hz4) hP
theorem b_X6_readCode_16 {r0 : Nat} {g2 : ab_H} {fs2 : List Value} (hr2 : (h)[r0]? = some (6, fs2)) (hm2 : MSE m_X6_advance d [.ref r0] h none g2) (k : SW sc m_X6_readCode (d + 1) rc rs 22 [some (.ref r0), some (.int 0)] [] g2 P) : SW sc m_X6_readCode (d + 1) rc rs 16 [some (.ref r0), none] [] h P := by
  refine sw_aload_n dX6_readCode_16 rfl ?_
  refine sw_cV dX6_readCode_17 lv_X6_39 hm2 hr2 rfl (by decide) rfl rfl rfl (Nat.le_of_ble_eq_true rfl) (fun _ _ => rfl) rfl ?_
  show SW sc m_X6_readCode _ _ _ 20 [some (.ref r0), none] [] g2 P
  refine sw_iconst (v := 0) dX6_readCode_20 (by decide) ?_
  refine sw_istore_n dX6_readCode_21 (by decide) rfl ?_
  show SW sc m_X6_readCode _ _ _ 22 [some (.ref r0), some (.int 0)] [] g2 P
  exact (k)
theorem b_X6_readCode_22 {r0 : Nat} {l1 : Int32} {fs3 : List Value} {a3 : Nat} {fs4 : List Value} {x4 : Int32} {v5 : Int32} {g5 : ab_H} (hc3 : (h)[r0]? = some (6, fs3)) (hv3 : fs3[1]? = some (.ref a3)) (hc4 : (h)[a3]? = some (3, fs4)) (hv4 : fs4[2]? = some (.int x4)) (hm5 : MSE m_X9_codeLength d [.int x4] h (some (.int v5)) g5) (kt : v5 ≤ l1 → SW sc m_X6_readCode (d + 1) rc rs 77 [some (.ref r0), none] [] g5 P) (kf : ¬ (v5 ≤ l1) → SW sc m_X6_readCode (d + 1) rc rs 36 [some (.ref r0), some (.int l1)] [] g5 P) : SW sc m_X6_readCode (d + 1) rc rs 22 [some (.ref r0), some (.int l1)] [] h P := by
  refine sw_iload_n dX6_readCode_22 rfl ?_
  refine sw_aload_n dX6_readCode_23 rfl ?_
  refine sw_getf dX6_readCode_24 lf_X6_21 hc3 hv3 ?_
  refine sw_getf dX6_readCode_27 lf_X6_96 hc4 hv4 ?_
  refine sw_cS dX6_readCode_30 ls_X6_111 hm5 rfl rfl (Nat.le_of_ble_eq_true rfl) (fun _ _ => rfl) rfl ?_
  show SW sc m_X6_readCode _ _ _ 33 [some (.ref r0), some (.int l1)] [.int v5, .int l1] g5 P
  exact sw_icmp_ge dX6_readCode_33 (by decide) (fun q => (sw_fg [false, true] rfl (kt q))) (fun q => (kf q))
theorem b_X6_readCode_36 {r0 : Nat} {l1 : Int32} {fs4 : List Value} {a4 : Nat} {fs5 : List Value} {x5 : Int32} {v8 : Int32} {g8 : ab_H} {fs8 : List Value} (hc4 : (h)[r0]? = some (6, fs4)) (hv4 : fs4[1]? = some (.ref a4)) (hc5 : (h)[a4]? = some (3, fs5)) (hv5 : fs5[2]? = some (.int x5)) (hr8 : (h)[r0]? = some (6, fs8)) (hm8 : MSE m_X6_needNumber d [.ref r0, .int 0, .int (x5 - 1)] h (some (.int v8)) g8) (kt : ¬ v8 = 0 → SW sc m_X6_readCode (d + 1) rc rs 55 [some (.ref r0), some (.int l1)] [] g8 P) (kf : v8 = 0 → SW sc m_X6_readCode (d + 1) rc rs 53 [none, none] [] g8 P) : SW sc m_X6_readCode (d + 1) rc rs 36 [some (.ref r0), some (.int l1)] [] h P := by
  refine sw_aload_n dX6_readCode_36 rfl ?_
  refine sw_iconst (v := 0) dX6_readCode_37 (by decide) ?_
  refine sw_aload_n dX6_readCode_38 rfl ?_
  refine sw_getf dX6_readCode_39 lf_X6_21 hc4 hv4 ?_
  refine sw_getf dX6_readCode_42 lf_X6_96 hc5 hv5 ?_
  refine sw_iconst (v := 1) dX6_readCode_45 (by decide) ?_
  refine sw_isub dX6_readCode_46 ?_
  refine sw_cV dX6_readCode_47 lv_X6_65 hm8 hr8 rfl (by decide) rfl rfl rfl (Nat.le_of_ble_eq_true rfl) (fun _ _ => rfl) rfl ?_
  show SW sc m_X6_readCode _ _ _ 50 [some (.ref r0), some (.int l1)] [.int v8] g8 P
  exact sw_if_ne dX6_readCode_50 (by decide) (fun q => (kt q)) (fun q => (sw_fg [true, true] rfl (kf q)))
theorem b_X6_readCode_53  (hP : P (.inl (some (.int 0))) h) : SW sc m_X6_readCode d rc rs 53 [none, none] [] h P := by
  refine sw_iconst (v := 0) dX6_readCode_53 (by decide) ?_
  exact sw_ret (v := (some (.int 0))) dX6_readCode_54 (rt_n (by decide)) hP
theorem b_X6_readCode_55 {r0 : Nat} {l1 : Int32} {fs2 : List Value} {a2 : Nat} {fs5 : List Value} {x5 : Int32} {g6 : ab_H} {fs6 : List Value} {g8 : ab_H} {fs8 : List Value} (hc2 : (h)[r0]? = some (6, fs2)) (hv2 : fs2[2]? = some (.ref a2)) (hc5 : (h)[r0]? = some (6, fs5)) (hv5 : fs5[6]? = some (.int x5)) (hr6 : (h)[a2]? = some (1, fs6)) (hm6 : MSE m_X1_setNumber d [.ref a2, .int l1, .int x5] h none g6) (hr8 : (g6)[r0]? = some (6, fs8)) (hm8 : MSE m_X6_advance d [.ref r0] g6 none g8) (k : SW sc m_X6_readCode (d + 1) rc rs 22 [some (.ref r0), some (.int (l1 + 1))] [] g8 P) : SW sc m_X6_readCode (d + 1) rc rs 55 [some (.ref r0), some (.int l1)] [] h P := by
  refine sw_aload_n dX6_readCode_55 rfl ?_
  refine sw_getf dX6_readCode_56 lf_X6_28 hc2 hv2 ?_
  refine sw_iload_n dX6_readCode_59 rfl ?_
  refine sw_aload_n dX6_readCode_60 rfl ?_
  refine sw_getf dX6_readCode_61 lf_X6_69 hc5 hv5 ?_
  refine sw_cV dX6_readCode_64 lv_X6_115 hm6 hr6 rfl (by decide) rfl rfl rfl (Nat.le_of_ble_eq_true rfl) (fun _ _ => rfl) rfl ?_
  show SW sc m_X6_readCode _ _ _ 67 [some (.ref r0), some (.int l1)] [] g6 P
  refine sw_aload_n dX6_readCode_67 rfl ?_
  refine sw_cV dX6_readCode_68 lv_X6_39 hm8 hr8 rfl (by decide) rfl rfl rfl (Nat.le_of_ble_eq_true rfl) (fun _ _ => rfl) rfl ?_
  show SW sc m_X6_readCode _ _ _ 71 [some (.ref r0), some (.int l1)] [] g8 P
  refine sw_iinc (v := l1 + 1) dX6_readCode_71 rfl rfl (by decide) rfl ?_
  show SW sc m_X6_readCode _ _ _ 74 [some (.ref r0), some (.int (l1 + 1))] [] g8 P
  exact sw_goto dX6_readCode_74 (by decide) (k)
theorem b_X6_readCode_77 {r0 : Nat} {fs2 : List Value} {a2 : Nat} {fs4 : List Value} {a4 : Nat} {g5 : ab_H} {fs5 : List Value} (hc2 : (h)[r0]? = some (6, fs2)) (hv2 : fs2[2]? = some (.ref a2)) (hc4 : (h)[r0]? = some (6, fs4)) (hv4 : fs4[1]? = some (.ref a4)) (hr5 : (h)[a2]? = some (1, fs5)) (hm5 : MSE m_X1_plant d [.ref a2, .ref a4] h none g5) (hP : P (.inl (some (.int 1))) g5) : SW sc m_X6_readCode (d + 1) rc rs 77 [some (.ref r0), none] [] h P := by
  refine sw_aload_n dX6_readCode_77 rfl ?_
  refine sw_getf dX6_readCode_78 lf_X6_28 hc2 hv2 ?_
  refine sw_aload_n dX6_readCode_81 rfl ?_
  refine sw_getf dX6_readCode_82 lf_X6_21 hc4 hv4 ?_
  refine sw_cV dX6_readCode_85 lv_X6_118 hm5 hr5 rfl (by decide) rfl rfl rfl (Nat.le_of_ble_eq_true rfl) (fun _ _ => rfl) rfl ?_
  show SW sc m_X6_readCode _ _ _ 88 [some (.ref r0), none] [] g5 P
  refine sw_iconst (v := 1) dX6_readCode_88 (by decide) ?_
  exact sw_ret (v := (some (.int 1))) dX6_readCode_89 (rt_n (by decide)) hP
theorem b_X6_readWeight_0 {r0 : Nat} {g2 : ab_H} {fs2 : List Value} {fs6 : List Value} {a6 : Nat} {fs7 : List Value} {x7 : Int32} {v10 : Int32} {g10 : ab_H} {fs10 : List Value} (hr2 : (h)[r0]? = some (6, fs2)) (hm2 : MSE m_X6_advance d [.ref r0] h none g2) (hc6 : (g2)[r0]? = some (6, fs6)) (hv6 : fs6[1]? = some (.ref a6)) (hc7 : (g2)[a6]? = some (3, fs7)) (hv7 : fs7[2]? = some (.int x7)) (hr10 : (g2)[r0]? = some (6, fs10)) (hm10 : MSE m_X6_needNumber d [.ref r0, .int 0, .int (x7 - 1)] g2 (some (.int v10)) g10) (kt : ¬ v10 = 0 → SW sc m_X6_readWeight (d + 1) rc rs 23 [some (.ref r0), none] [] g10 P) (kf : v10 = 0 → SW sc m_X6_readWeight (d + 1) rc rs 21 [none, none] [] g10 P) : SW sc m_X6_readWeight (d + 1) rc rs 0 [some (.ref r0), none] [] h P := by
  refine sw_aload_n dX6_readWeight_0 rfl ?_
  refine sw_cV dX6_readWeight_1 lv_X6_39 hm2 hr2 rfl (by decide) rfl rfl rfl (Nat.le_of_ble_eq_true rfl) (fun _ _ => rfl) rfl ?_
  show SW sc m_X6_readWeight _ _ _ 4 [some (.ref r0), none] [] g2 P
  refine sw_aload_n dX6_readWeight_4 rfl ?_
  refine sw_iconst (v := 0) dX6_readWeight_5 (by decide) ?_
  refine sw_aload_n dX6_readWeight_6 rfl ?_
  refine sw_getf dX6_readWeight_7 lf_X6_21 hc6 hv6 ?_
  refine sw_getf dX6_readWeight_10 lf_X6_96 hc7 hv7 ?_
  refine sw_iconst (v := 1) dX6_readWeight_13 (by decide) ?_
  refine sw_isub dX6_readWeight_14 ?_
  refine sw_cV dX6_readWeight_15 lv_X6_65 hm10 hr10 rfl (by decide) rfl rfl rfl (Nat.le_of_ble_eq_true rfl) (fun _ _ => rfl) rfl ?_
  show SW sc m_X6_readWeight _ _ _ 18 [some (.ref r0), none] [.int v10] g10 P
  exact sw_if_ne dX6_readWeight_18 (by decide) (fun q => (kt q)) (fun q => (sw_fg [true, false] rfl (kf q)))
theorem b_X6_readWeight_21  (hP : P (.inl (some (.int 0))) h) : SW sc m_X6_readWeight d rc rs 21 [none, none] [] h P := by
  refine sw_iconst (v := 0) dX6_readWeight_21 (by decide) ?_
  exact sw_ret (v := (some (.int 0))) dX6_readWeight_22 (rt_n (by decide)) hP
theorem b_X6_readWeight_23 {r0 : Nat} {fs2 : List Value} {x2 : Int32} {g5 : ab_H} {fs5 : List Value} {v9 : Int32} {g9 : ab_H} {fs9 : List Value} (hc2 : (h)[r0]? = some (6, fs2)) (hv2 : fs2[6]? = some (.int x2)) (hr5 : (h)[r0]? = some (6, fs5)) (hm5 : MSE m_X6_advance d [.ref r0] h none g5) (hr9 : (g5)[r0]? = some (6, fs9)) (hm9 : MSE m_X6_needNumber d [.ref r0, .int 0, .int 99] g5 (some (.int v9)) g9) (kt : ¬ v9 = 0 → SW sc m_X6_readWeight (d + 1) rc rs 44 [some (.ref r0), some (.int x2)] [] g9 P) (kf : v9 = 0 → SW sc m_X6_readWeight (d + 1) rc rs 42 [none, none] [] g9 P) : SW sc m_X6_readWeight (d + 1) rc rs 23 [some (.ref r0), none] [] h P := by
  refine sw_aload_n dX6_readWeight_23 rfl ?_
  refine sw_getf dX6_readWeight_24 lf_X6_69 hc2 hv2 ?_
  refine sw_istore_n dX6_readWeight_27 (by decide) rfl ?_
  show SW sc m_X6_readWeight _ _ _ 28 [some (.ref r0), some (.int x2)] [] h P
  refine sw_aload_n dX6_readWeight_28 rfl ?_
  refine sw_cV dX6_readWeight_29 lv_X6_39 hm5 hr5 rfl (by decide) rfl rfl rfl (Nat.le_of_ble_eq_true rfl) (fun _ _ => rfl) rfl ?_
  show SW sc m_X6_readWeight _ _ _ 32 [some (.ref r0), some (.int x2)] [] g5 P
  refine sw_aload_n dX6_readWeight_32 rfl ?_
  refine sw_iconst (v := 0) dX6_readWeight_33 (by decide) ?_
  refine sw_bipush (v := 99) dX6_readWeight_34 (by decide) ?_
  refine sw_cV dX6_readWeight_36 lv_X6_65 hm9 hr9 rfl (by decide) rfl rfl rfl (Nat.le_of_ble_eq_true rfl) (fun _ _ => rfl) rfl ?_
  show SW sc m_X6_readWeight _ _ _ 39 [some (.ref r0), some (.int x2)] [.int v9] g9 P
  exact sw_if_ne dX6_readWeight_39 (by decide) (fun q => (kt q)) (fun q => (sw_fg [true, true] rfl (kf q)))
theorem b_X6_readWeight_42  (hP : P (.inl (some (.int 0))) h) : SW sc m_X6_readWeight d rc rs 42 [none, none] [] h P := by
  refine sw_iconst (v := 0) dX6_readWeight_42 (by decide) ?_
  exact sw_ret (v := (some (.int 0))) dX6_readWeight_43 (rt_n (by decide)) hP
theorem b_X6_readWeight_44 {r0 : Nat} {l1 : Int32} {fs2 : List Value} {a2 : Nat} {fs5 : List Value} {x5 : Int32} {g6 : ab_H} {fs6 : List Value} {g8 : ab_H} {fs8 : List Value} (hc2 : (h)[r0]? = some (6, fs2)) (hv2 : fs2[1]? = some (.ref a2)) (hc5 : (h)[r0]? = some (6, fs5)) (hv5 : fs5[6]? = some (.int x5)) (hr6 : (h)[a2]? = some (3, fs6)) (hm6 : MSE m_X3_weigh d [.ref a2, .int l1, .int x5] h none g6) (hr8 : (g6)[r0]? = some (6, fs8)) (hm8 : MSE m_X6_advance d [.ref r0] g6 none g8) (hP : P (.inl (some (.int 1))) g8) : SW sc m_X6_readWeight (d + 1) rc rs 44 [some (.ref r0), some (.int l1)] [] h P := by
  refine sw_aload_n dX6_readWeight_44 rfl ?_
  refine sw_getf dX6_readWeight_45 lf_X6_21 hc2 hv2 ?_
  refine sw_iload_n dX6_readWeight_48 rfl ?_
  refine sw_aload_n dX6_readWeight_49 rfl ?_
  refine sw_getf dX6_readWeight_50 lf_X6_69 hc5 hv5 ?_
  refine sw_cV dX6_readWeight_53 lv_X6_122 hm6 hr6 rfl (by decide) rfl rfl rfl (Nat.le_of_ble_eq_true rfl) (fun _ _ => rfl) rfl ?_
  show SW sc m_X6_readWeight _ _ _ 56 [some (.ref r0), some (.int l1)] [] g6 P
  refine sw_aload_n dX6_readWeight_56 rfl ?_
  refine sw_cV dX6_readWeight_57 lv_X6_39 hm8 hr8 rfl (by decide) rfl rfl rfl (Nat.le_of_ble_eq_true rfl) (fun _ _ => rfl) rfl ?_
  show SW sc m_X6_readWeight _ _ _ 60 [some (.ref r0), some (.int l1)] [] g8 P
  refine sw_iconst (v := 1) dX6_readWeight_60 (by decide) ?_
  exact sw_ret (v := (some (.int 1))) dX6_readWeight_61 (rt_n (by decide)) hP
theorem b_X6_needNumber_0 {r0 : Nat} {l1 : Int32} {l2 : Int32} {fs2 : List Value} {x2 : Int32} (hc2 : (h)[r0]? = some (6, fs2)) (hv2 : fs2[5]? = some (.int x2)) (kt : x2 = 2 → SW sc m_X6_needNumber d rc rs 14 [some (.ref r0), some (.int l1), some (.int l2)] [] h P) (kf : ¬ (x2 = 2) → SW sc m_X6_needNumber d rc rs 8 [some (.ref r0), none, none] [] h P) : SW sc m_X6_needNumber d rc rs 0 [some (.ref r0), some (.int l1), some (.int l2)] [] h P := by
  refine sw_aload_n dX6_needNumber_0 rfl ?_
  refine sw_getf dX6_needNumber_1 lf_X6_46 hc2 hv2 ?_
  refine sw_iconst (v := 2) dX6_needNumber_4 (by decide) ?_
  exact sw_icmp_eq dX6_needNumber_5 (by decide) (fun q => (kt q)) (fun q => (sw_fg [false, true, true] rfl (kf q)))
theorem b_X6_needNumber_8 {r0 : Nat} {v3 : Int32} {g3 : ab_H} {fs3 : List Value} (hr3 : (h)[r0]? = some (6, fs3)) (hm3 : MSE m_X6_fail d [.ref r0, .int 1] h (some (.int v3)) g3) (hz4 : narrow .boolean (.int v3) = .int v3) (hP : P (.inl (some (.int v3))) g3) : SW sc m_X6_needNumber (d + 1) rc rs 8 [some (.ref r0), none, none] [] h P := by
  refine sw_aload_n dX6_needNumber_8 rfl ?_
  refine sw_iconst (v := 1) dX6_needNumber_9 (by decide) ?_
  refine sw_cV dX6_needNumber_10 lv_X6_61 hm3 hr3 rfl (by decide) rfl rfl rfl (Nat.le_of_ble_eq_true rfl) (fun _ _ => rfl) rfl ?_
  show SW sc m_X6_needNumber _ _ _ 13 [some (.ref r0), none, none] [.int v3] g3 P
  exact sw_ret (v := (some (.int v3))) dX6_needNumber_13 (rt_n hz4) hP
theorem b_X6_needNumber_14 {r0 : Nat} {l1 : Int32} {l2 : Int32} {fs2 : List Value} {x2 : Int32} (hc2 : (h)[r0]? = some (6, fs2)) (hv2 : fs2[6]? = some (.int x2)) (kt : x2 < l1 → SW sc m_X6_needNumber d rc rs 30 [some (.ref r0), none, none] [] h P) (kf : ¬ (x2 < l1) → SW sc m_X6_needNumber d rc rs 22 [some (.ref r0), none, some (.int l2)] [] h P) : SW sc m_X6_needNumber d rc rs 14 [some (.ref r0), some (.int l1), some (.int l2)] [] h P := by
  refine sw_aload_n dX6_needNumber_14 rfl ?_
  refine sw_getf dX6_needNumber_15 lf_X6_69 hc2 hv2 ?_
  refine sw_iload_n dX6_needNumber_18 rfl ?_
  exact sw_icmp_lt dX6_needNumber_19 (by decide) (fun q => (sw_fg [false, true, true] rfl (kt q))) (fun q => (sw_fg [false, true, false] rfl (kf q)))
theorem b_X6_needNumber_22 {r0 : Nat} {l2 : Int32} {fs2 : List Value} {x2 : Int32} (hc2 : (h)[r0]? = some (6, fs2)) (hv2 : fs2[6]? = some (.int x2)) (kt : x2 ≤ l2 → SW sc m_X6_needNumber d rc rs 38 [none, none, none] [] h P) (kf : ¬ (x2 ≤ l2) → SW sc m_X6_needNumber d rc rs 30 [some (.ref r0), none, none] [] h P) : SW sc m_X6_needNumber d rc rs 22 [some (.ref r0), none, some (.int l2)] [] h P := by
  refine sw_aload_n dX6_needNumber_22 rfl ?_
  refine sw_getf dX6_needNumber_23 lf_X6_69 hc2 hv2 ?_
  refine sw_iload_n dX6_needNumber_26 rfl ?_
  exact sw_icmp_le dX6_needNumber_27 (by decide) (fun q => (sw_fg [true, false, true] rfl (kt q))) (fun q => (sw_fg [false, false, true] rfl (kf q)))
theorem b_X6_needNumber_30 {r0 : Nat} {v3 : Int32} {g3 : ab_H} {fs3 : List Value} (hr3 : (h)[r0]? = some (6, fs3)) (hm3 : MSE m_X6_fail d [.ref r0, .int 2] h (some (.int v3)) g3) (kt : v3 = 0 → SW sc m_X6_needNumber (d + 1) rc rs 42 [none, none, none] [] g3 P) (kf : ¬ (v3 = 0) → SW sc m_X6_needNumber (d + 1) rc rs 38 [none, none, none] [] g3 P) : SW sc m_X6_needNumber (d + 1) rc rs 30 [some (.ref r0), none, none] [] h P := by
  refine sw_aload_n dX6_needNumber_30 rfl ?_
  refine sw_iconst (v := 2) dX6_needNumber_31 (by decide) ?_
  refine sw_cV dX6_needNumber_32 lv_X6_61 hm3 hr3 rfl (by decide) rfl rfl rfl (Nat.le_of_ble_eq_true rfl) (fun _ _ => rfl) rfl ?_
  show SW sc m_X6_needNumber _ _ _ 35 [some (.ref r0), none, none] [.int v3] g3 P
  exact sw_if_eq dX6_needNumber_35 (by decide) (fun q => (sw_fg [true, false, false] rfl (kt q))) (fun q => (sw_fg [true, false, false] rfl (kf q)))
theorem b_X6_needNumber_38  (k : SW sc m_X6_needNumber d rc rs 43 [none, none, none] [.int 1] h P) : SW sc m_X6_needNumber d rc rs 38 [none, none, none] [] h P := by
  refine sw_iconst (v := 1) dX6_needNumber_38 (by decide) ?_
  exact sw_goto dX6_needNumber_39 (by decide) (k)
theorem b_X6_needNumber_42  (k : SW sc m_X6_needNumber d rc rs 43 [none, none, none] [.int 0] h P) : SW sc m_X6_needNumber d rc rs 42 [none, none, none] [] h P := by
  refine sw_iconst (v := 0) dX6_needNumber_42 (by decide) ?_
  exact (k)
theorem b_X6_needNumber_43 {s0 : Int32} (hz1 : narrow .boolean (.int s0) = .int s0) (hP : P (.inl (some (.int s0))) h) : SW sc m_X6_needNumber d rc rs 43 [none, none, none] [.int s0] h P := by
  exact sw_ret (v := (some (.int s0))) dX6_needNumber_43 (rt_n hz1) hP
theorem b_X6_fail_0 {r0 : Nat} {l1 : Int32} {fs4 : List Value} {x4 : Int32} {fs8 : List Value} (hc4 : (h)[r0]? = some (6, fs4)) (hv4 : fs4[3]? = some (.int x4)) (hc8 : (h)[r0]? = some (6, fs8)) (hk8 : 7 < fs8.length) (hP : P (.inl (some (.int 0))) ((h).set r0 (6, fs8.set 7 (.int ((8 * x4) + l1))))) : SW sc m_X6_fail d rc rs 0 [some (.ref r0), some (.int l1)] [] h P := by
  refine sw_aload_n dX6_fail_0 rfl ?_
  refine sw_bipush (v := 8) dX6_fail_1 (by decide) ?_
  refine sw_aload_n dX6_fail_3 rfl ?_
  refine sw_getf dX6_fail_4 lf_X6_125 hc4 hv4 ?_
  refine sw_imul dX6_fail_7 ?_
  refine sw_iload_n dX6_fail_8 rfl ?_
  refine sw_iadd dX6_fail_9 ?_
  refine sw_putf dX6_fail_10 lp_X6_36 hc8 hk8 (fun _ _ => ⟨rfl, rfl⟩) ?_
  refine sw_iconst (v := 0) dX6_fail_13 (by decide) ?_
  exact sw_ret (v := (some (.int 0))) dX6_fail_14 (rt_n (by decide)) hP
theorem b_X6_isWord_0 {r0 : Nat} {t1 : Nat} {fs2 : List Value} {x2 : Int32} (hc2 : (h)[r0]? = some (6, fs2)) (hv2 : fs2[5]? = some (.int x2)) (kt : ¬ x2 = 1 → SW sc m_X6_isWord d rc rs 24 [none, none, none] [] h P) (kf : x2 = 1 → SW sc m_X6_isWord d rc rs 8 [some (.ref r0), some (.retAddr t1), none] [] h P) : SW sc m_X6_isWord d rc rs 0 [some (.ref r0), some (.retAddr t1), none] [] h P := by
  refine sw_aload_n dX6_isWord_0 rfl ?_
  refine sw_getf dX6_isWord_1 lf_X6_46 hc2 hv2 ?_
  refine sw_iconst (v := 1) dX6_isWord_4 (by decide) ?_
  exact sw_icmp_ne dX6_isWord_5 (by decide) (fun q => (sw_fg [true, true, false] rfl (kt q))) (fun q => (kf q))
theorem b_X6_isWord_8 {r0 : Nat} {t1 : Nat} {fs2 : List Value} {x2 : Int32} {fs4 : List Value} {x4 : Int32} {v7 : Int32} {g7 : ab_H} (hc2 : (h)[r0]? = some (6, fs2)) (hv2 : fs2[4]? = some (.int x2)) (hc4 : (h)[r0]? = some (6, fs4)) (hv4 : fs4[3]? = some (.int x4)) (ht6 : t1 < 6) (ht7 : t1 < 6) (hm7 : MSE m_J0_length_8abf5 d [.retAddr t1] h (some (.int v7)) g7) (kt : (x2 - x4) = v7 → SW sc m_X6_isWord (d + 1) rc rs 26 [some (.ref r0), some (.retAddr t1), none] [] g7 P) (kf : ¬ ((x2 - x4) = v7) → SW sc m_X6_isWord (d + 1) rc rs 24 [none, none, none] [] g7 P) : SW sc m_X6_isWord (d + 1) rc rs 8 [some (.ref r0), some (.retAddr t1), none] [] h P := by
  refine sw_aload_n dX6_isWord_8 rfl ?_
  refine sw_getf dX6_isWord_9 lf_X6_32 hc2 hv2 ?_
  refine sw_aload_n dX6_isWord_12 rfl ?_
  refine sw_getf dX6_isWord_13 lf_X6_125 hc4 hv4 ?_
  refine sw_isub dX6_isWord_16 ?_
  refine sw_aload_nt dX6_isWord_17 rfl (Or.inl ht6) ?_
  refine sw_cT dX6_isWord_18 lv_X6_128 rfl ht7 hm7 rfl rfl (Nat.le_of_ble_eq_true rfl) (fun _ _ => rfl) (fun σ τ v hv => by simp at hv) ?_
  show SW sc m_X6_isWord _ _ _ 21 [some (.ref r0), some (.retAddr t1), none] [.int v7, .int (x2 - x4)] g7 P
  exact sw_icmp_eq dX6_isWord_21 (by decide) (fun q => (kt q)) (fun q => (sw_fg [true, true, false] rfl (kf q)))
theorem b_X6_isWord_24  (hP : P (.inl (some (.int 0))) h) : SW sc m_X6_isWord d rc rs 24 [none, none, none] [] h P := by
  refine sw_iconst (v := 0) dX6_isWord_24 (by decide) ?_
  exact sw_ret (v := (some (.int 0))) dX6_isWord_25 (rt_n (by decide)) hP
theorem b_X6_isWord_26 {r0 : Nat} {t1 : Nat} (k : SW sc m_X6_isWord d rc rs 28 [some (.ref r0), some (.retAddr t1), some (.int 0)] [] h P) : SW sc m_X6_isWord d rc rs 26 [some (.ref r0), some (.retAddr t1), none] [] h P := by
  refine sw_iconst (v := 0) dX6_isWord_26 (by decide) ?_
  refine sw_istore_n dX6_isWord_27 (by decide) rfl ?_
  show SW sc m_X6_isWord _ _ _ 28 [some (.ref r0), some (.retAddr t1), some (.int 0)] [] h P
  exact (k)
theorem b_X6_isWord_28 {r0 : Nat} {t1 : Nat} {l2 : Int32} {v3 : Int32} {g3 : ab_H} (ht2 : t1 < 6) (ht3 : t1 < 6) (hm3 : MSE m_J0_length_8abf5 d [.retAddr t1] h (some (.int v3)) g3) (kt : v3 ≤ l2 → SW sc m_X6_isWord (d + 1) rc rs 65 [none, none, none] [] g3 P) (kf : ¬ (v3 ≤ l2) → SW sc m_X6_isWord (d + 1) rc rs 36 [some (.ref r0), some (.retAddr t1), some (.int l2)] [] g3 P) : SW sc m_X6_isWord (d + 1) rc rs 28 [some (.ref r0), some (.retAddr t1), some (.int l2)] [] h P := by
  refine sw_iload_n dX6_isWord_28 rfl ?_
  refine sw_aload_nt dX6_isWord_29 rfl (Or.inl ht2) ?_
  refine sw_cT dX6_isWord_30 lv_X6_128 rfl ht3 hm3 rfl rfl (Nat.le_of_ble_eq_true rfl) (fun _ _ => rfl) (fun σ τ v hv => by simp at hv) ?_
  show SW sc m_X6_isWord _ _ _ 33 [some (.ref r0), some (.retAddr t1), some (.int l2)] [.int v3, .int l2] g3 P
  exact sw_icmp_ge dX6_isWord_33 (by decide) (fun q => (sw_fg [true, true, true] rfl (kt q))) (fun q => (kf q))
theorem b_X6_isWord_36 {r0 : Nat} {t1 : Nat} {l2 : Int32} {fs2 : List Value} {a2 : Nat} {fs4 : List Value} {x4 : Int32} {v7 : Int32} {g7 : ab_H} {fs7 : List Value} {v10 : Int32} {g10 : ab_H} (hc2 : (h)[r0]? = some (6, fs2)) (hv2 : fs2[0]? = some (.ref a2)) (hc4 : (h)[r0]? = some (6, fs4)) (hv4 : fs4[3]? = some (.int x4)) (hr7 : (h)[a2]? = some (0, fs7)) (hm7 : MSE m_X0_at d [.ref a2, .int (x4 + l2)] h (some (.int v7)) g7) (ht8 : t1 < 6) (ht10 : t1 < 6) (hm10 : MSE m_J0_charAt_5068e d [.retAddr t1, .int l2] g7 (some (.int v10)) g10) (kt : v7 = v10 → SW sc m_X6_isWord (d + 1) rc rs 59 [some (.ref r0), some (.retAddr t1), some (.int l2)] [] g10 P) (kf : ¬ (v7 = v10) → SW sc m_X6_isWord (d + 1) rc rs 57 [none, none, none] [] g10 P) : SW sc m_X6_isWord (d + 1) rc rs 36 [some (.ref r0), some (.retAddr t1), some (.int l2)] [] h P := by
  refine sw_aload_n dX6_isWord_36 rfl ?_
  refine sw_getf dX6_isWord_37 lf_X6_12 hc2 hv2 ?_
  refine sw_aload_n dX6_isWord_40 rfl ?_
  refine sw_getf dX6_isWord_41 lf_X6_125 hc4 hv4 ?_
  refine sw_iload_n dX6_isWord_44 rfl ?_
  refine sw_iadd dX6_isWord_45 ?_
  refine sw_cV dX6_isWord_46 lv_X6_133 hm7 hr7 rfl (by decide) rfl rfl rfl (Nat.le_of_ble_eq_true rfl) (fun _ _ => rfl) rfl ?_
  show SW sc m_X6_isWord _ _ _ 49 [some (.ref r0), some (.retAddr t1), some (.int l2)] [.int v7] g7 P
  refine sw_aload_nt dX6_isWord_49 rfl (Or.inl ht8) ?_
  refine sw_iload_n dX6_isWord_50 rfl ?_
  refine sw_cT dX6_isWord_51 lv_X6_136 rfl ht10 hm10 rfl rfl (Nat.le_of_ble_eq_true rfl) (fun _ _ => rfl) (fun σ τ v hv => by rw [List.mem_singleton.mp hv]; rfl) ?_
  show SW sc m_X6_isWord _ _ _ 54 [some (.ref r0), some (.retAddr t1), some (.int l2)] [.int v10, .int v7] g10 P
  exact sw_icmp_eq dX6_isWord_54 (by decide) (fun q => (kt q)) (fun q => (sw_fg [true, true, true] rfl (kf q)))
theorem b_X6_isWord_57  (hP : P (.inl (some (.int 0))) h) : SW sc m_X6_isWord d rc rs 57 [none, none, none] [] h P := by
  refine sw_iconst (v := 0) dX6_isWord_57 (by decide) ?_
  exact sw_ret (v := (some (.int 0))) dX6_isWord_58 (rt_n (by decide)) hP
theorem b_X6_isWord_59 {r0 : Nat} {t1 : Nat} {l2 : Int32} (k : SW sc m_X6_isWord d rc rs 28 [some (.ref r0), some (.retAddr t1), some (.int (l2 + 1))] [] h P) : SW sc m_X6_isWord d rc rs 59 [some (.ref r0), some (.retAddr t1), some (.int l2)] [] h P := by
  refine sw_iinc (v := l2 + 1) dX6_isWord_59 rfl rfl (by decide) rfl ?_
  show SW sc m_X6_isWord _ _ _ 62 [some (.ref r0), some (.retAddr t1), some (.int (l2 + 1))] [] h P
  exact sw_goto dX6_isWord_62 (by decide) (k)
theorem b_X6_isWord_65  (hP : P (.inl (some (.int 1))) h) : SW sc m_X6_isWord d rc rs 65 [none, none, none] [] h P := by
  refine sw_iconst (v := 1) dX6_isWord_65 (by decide) ?_
  exact sw_ret (v := (some (.int 1))) dX6_isWord_66 (rt_n (by decide)) hP
theorem b_X6_advance_0 {r0 : Nat} {fs3 : List Value} {x3 : Int32} {fs4 : List Value} (hc3 : (h)[r0]? = some (6, fs3)) (hv3 : fs3[4]? = some (.int x3)) (hc4 : (h)[r0]? = some (6, fs4)) (hk4 : 3 < fs4.length) (k : SW sc m_X6_advance d rc rs 8 [some (.ref r0), none] [] ((h).set r0 (6, fs4.set 3 (.int x3))) P) : SW sc m_X6_advance d rc rs 0 [some (.ref r0), none] [] h P := by
  refine sw_aload_n dX6_advance_0 rfl ?_
  refine sw_aload_n dX6_advance_1 rfl ?_
  refine sw_getf dX6_advance_2 lf_X6_32 hc3 hv3 ?_
  refine sw_putf dX6_advance_5 lp_X6_125 hc4 hk4 (fun _ _ => ⟨rfl, rfl⟩) ?_
  exact (k)
theorem b_X6_advance_8 {r0 : Nat} {fs2 : List Value} {x2 : Int32} {fs4 : List Value} {a4 : Nat} {fs5 : List Value} {x5 : Int32} (hc2 : (h)[r0]? = some (6, fs2)) (hv2 : fs2[3]? = some (.int x2)) (hc4 : (h)[r0]? = some (6, fs4)) (hv4 : fs4[0]? = some (.ref a4)) (hc5 : (h)[a4]? = some (0, fs5)) (hv5 : fs5[1]? = some (.int x5)) (kt : x5 ≤ x2 → SW sc m_X6_advance d rc rs 52 [some (.ref r0), none] [] h P) (kf : ¬ (x5 ≤ x2) → SW sc m_X6_advance d rc rs 22 [some (.ref r0), none] [] h P) : SW sc m_X6_advance d rc rs 8 [some (.ref r0), none] [] h P := by
  refine sw_aload_n dX6_advance_8 rfl ?_
  refine sw_getf dX6_advance_9 lf_X6_125 hc2 hv2 ?_
  refine sw_aload_n dX6_advance_12 rfl ?_
  refine sw_getf dX6_advance_13 lf_X6_12 hc4 hv4 ?_
  refine sw_getf dX6_advance_16 lf_X6_140 hc5 hv5 ?_
  exact sw_icmp_ge dX6_advance_19 (by decide) (fun q => (kt q)) (fun q => (kf q))
theorem b_X6_advance_22 {r0 : Nat} {fs2 : List Value} {a2 : Nat} {fs4 : List Value} {x4 : Int32} {v5 : Int32} {g5 : ab_H} {fs5 : List Value} {v6 : Int32} {g6 : ab_H} (hc2 : (h)[r0]? = some (6, fs2)) (hv2 : fs2[0]? = some (.ref a2)) (hc4 : (h)[r0]? = some (6, fs4)) (hv4 : fs4[3]? = some (.int x4)) (hr5 : (h)[a2]? = some (0, fs5)) (hm5 : MSE m_X0_at d [.ref a2, .int x4] h (some (.int v5)) g5) (hm6 : MSE m_X6_isBlank d [.int v5] g5 (some (.int v6)) g6) (kt : v6 = 0 → SW sc m_X6_advance (d + 1) rc rs 52 [some (.ref r0), none] [] g6 P) (kf : ¬ (v6 = 0) → SW sc m_X6_advance (d + 1) rc rs 39 [some (.ref r0), none] [] g6 P) : SW sc m_X6_advance (d + 1) rc rs 22 [some (.ref r0), none] [] h P := by
  refine sw_aload_n dX6_advance_22 rfl ?_
  refine sw_getf dX6_advance_23 lf_X6_12 hc2 hv2 ?_
  refine sw_aload_n dX6_advance_26 rfl ?_
  refine sw_getf dX6_advance_27 lf_X6_125 hc4 hv4 ?_
  refine sw_cV dX6_advance_30 lv_X6_133 hm5 hr5 rfl (by decide) rfl rfl rfl (Nat.le_of_ble_eq_true rfl) (fun _ _ => rfl) rfl ?_
  show SW sc m_X6_advance _ _ _ 33 [some (.ref r0), none] [.int v5] g5 P
  refine sw_cS dX6_advance_33 ls_X6_142 hm6 rfl rfl (Nat.le_of_ble_eq_true rfl) (fun _ _ => rfl) rfl ?_
  show SW sc m_X6_advance _ _ _ 36 [some (.ref r0), none] [.int v6] g6 P
  exact sw_if_eq dX6_advance_36 (by decide) (fun q => (kt q)) (fun q => (kf q))
theorem b_X6_advance_39 {r0 : Nat} {fs3 : List Value} {x3 : Int32} {fs6 : List Value} (hc3 : (h)[r0]? = some (6, fs3)) (hv3 : fs3[3]? = some (.int x3)) (hc6 : (h)[r0]? = some (6, fs6)) (hk6 : 3 < fs6.length) (k : SW sc m_X6_advance d rc rs 8 [some (.ref r0), none] [] ((h).set r0 (6, fs6.set 3 (.int (x3 + 1)))) P) : SW sc m_X6_advance d rc rs 39 [some (.ref r0), none] [] h P := by
  refine sw_aload_n dX6_advance_39 rfl ?_
  refine sw_dup dX6_advance_40 (fun _ _ => rfl) ?_
  refine sw_getf dX6_advance_41 lf_X6_125 hc3 hv3 ?_
  refine sw_iconst (v := 1) dX6_advance_44 (by decide) ?_
  refine sw_iadd dX6_advance_45 ?_
  refine sw_putf dX6_advance_46 lp_X6_125 hc6 hk6 (fun _ _ => ⟨rfl, rfl⟩) ?_
  exact sw_goto dX6_advance_49 (by decide) (k)
theorem b_X6_advance_52 {r0 : Nat} {fs2 : List Value} {a2 : Nat} {fs4 : List Value} {x4 : Int32} {v5 : Int32} {g5 : ab_H} {fs5 : List Value} {fs8 : List Value} {x8 : Int32} {fs10 : List Value} {a10 : Nat} {fs11 : List Value} {x11 : Int32} (hc2 : (h)[r0]? = some (6, fs2)) (hv2 : fs2[0]? = some (.ref a2)) (hc4 : (h)[r0]? = some (6, fs4)) (hv4 : fs4[3]? = some (.int x4)) (hr5 : (h)[a2]? = some (0, fs5)) (hm5 : MSE m_X0_at d [.ref a2, .int x4] h (some (.int v5)) g5) (hc8 : (g5)[r0]? = some (6, fs8)) (hv8 : fs8[3]? = some (.int x8)) (hc10 : (g5)[r0]? = some (6, fs10)) (hv10 : fs10[0]? = some (.ref a10)) (hc11 : (g5)[a10]? = some (0, fs11)) (hv11 : fs11[1]? = some (.int x11)) (kt : x8 < x11 → SW sc m_X6_advance (d + 1) rc rs 94 [some (.ref r0), some (.int v5)] [] g5 P) (kf : ¬ (x8 < x11) → SW sc m_X6_advance (d + 1) rc rs 78 [some (.ref r0), none] [] g5 P) : SW sc m_X6_advance (d + 1) rc rs 52 [some (.ref r0), none] [] h P := by
  refine sw_aload_n dX6_advance_52 rfl ?_
  refine sw_getf dX6_advance_53 lf_X6_12 hc2 hv2 ?_
  refine sw_aload_n dX6_advance_56 rfl ?_
  refine sw_getf dX6_advance_57 lf_X6_125 hc4 hv4 ?_
  refine sw_cV dX6_advance_60 lv_X6_133 hm5 hr5 rfl (by decide) rfl rfl rfl (Nat.le_of_ble_eq_true rfl) (fun _ _ => rfl) rfl ?_
  show SW sc m_X6_advance _ _ _ 63 [some (.ref r0), none] [.int v5] g5 P
  refine sw_istore_n dX6_advance_63 (by decide) rfl ?_
  show SW sc m_X6_advance _ _ _ 64 [some (.ref r0), some (.int v5)] [] g5 P
  refine sw_aload_n dX6_advance_64 rfl ?_
  refine sw_getf dX6_advance_65 lf_X6_125 hc8 hv8 ?_
  refine sw_aload_n dX6_advance_68 rfl ?_
  refine sw_getf dX6_advance_69 lf_X6_12 hc10 hv10 ?_
  refine sw_getf dX6_advance_72 lf_X6_140 hc11 hv11 ?_
  exact sw_icmp_lt dX6_advance_75 (by decide) (fun q => (kt q)) (fun q => (sw_fg [false, true] rfl (kf q)))
theorem b_X6_advance_78 {r0 : Nat} {fs3 : List Value} {x3 : Int32} {fs4 : List Value} {fs7 : List Value} (hc3 : (h)[r0]? = some (6, fs3)) (hv3 : fs3[3]? = some (.int x3)) (hc4 : (h)[r0]? = some (6, fs4)) (hk4 : 4 < fs4.length) (hc7 : ((h).set r0 (6, fs4.set 4 (.int x3)))[r0]? = some (6, fs7)) (hk7 : 5 < fs7.length) (k : SW sc m_X6_advance d rc rs 147 [none, none] [] (((h).set r0 (6, fs4.set 4 (.int x3))).set r0 (6, fs7.set 5 (.int 0))) P) : SW sc m_X6_advance d rc rs 78 [some (.ref r0), none] [] h P := by
  refine sw_aload_n dX6_advance_78 rfl ?_
  refine sw_aload_n dX6_advance_79 rfl ?_
  refine sw_getf dX6_advance_80 lf_X6_125 hc3 hv3 ?_
  refine sw_putf dX6_advance_83 lp_X6_32 hc4 hk4 (fun _ _ => ⟨rfl, rfl⟩) ?_
  refine sw_aload_n dX6_advance_86 rfl ?_
  refine sw_iconst (v := 0) dX6_advance_87 (by decide) ?_
  refine sw_putf dX6_advance_88 lp_X6_46 hc7 hk7 (fun _ _ => ⟨rfl, rfl⟩) ?_
  exact sw_goto dX6_advance_91 (by decide) (sw_fg [true, false] rfl (k))
theorem b_X6_advance_94 {r0 : Nat} {l1 : Int32} {v2 : Int32} {g2 : ab_H} (hm2 : MSE m_X6_isLetter d [.int l1] h (some (.int v2)) g2) (kt : v2 = 0 → SW sc m_X6_advance (d + 1) rc rs 108 [some (.ref r0), some (.int l1)] [] g2 P) (kf : ¬ (v2 = 0) → SW sc m_X6_advance (d + 1) rc rs 101 [some (.ref r0), none] [] g2 P) : SW sc m_X6_advance (d + 1) rc rs 94 [some (.ref r0), some (.int l1)] [] h P := by
  refine sw_iload_n dX6_advance_94 rfl ?_
  refine sw_cS dX6_advance_95 ls_X6_145 hm2 rfl rfl (Nat.le_of_ble_eq_true rfl) (fun _ _ => rfl) rfl ?_
  show SW sc m_X6_advance _ _ _ 98 [some (.ref r0), some (.int l1)] [.int v2] g2 P
  exact sw_if_eq dX6_advance_98 (by decide) (fun q => (kt q)) (fun q => (sw_fg [false, true] rfl (kf q)))
theorem b_X6_advance_101 {r0 : Nat} {g2 : ab_H} {fs2 : List Value} (hr2 : (h)[r0]? = some (6, fs2)) (hm2 : MSE m_X6_advanceWord d [.ref r0] h none g2) (k : SW sc m_X6_advance (d + 1) rc rs 147 [none, none] [] g2 P) : SW sc m_X6_advance (d + 1) rc rs 101 [some (.ref r0), none] [] h P := by
  refine sw_aload_n dX6_advance_101 rfl ?_
  refine sw_cV dX6_advance_102 lv_X6_148 hm2 hr2 rfl (by decide) rfl rfl rfl (Nat.le_of_ble_eq_true rfl) (fun _ _ => rfl) rfl ?_
  show SW sc m_X6_advance _ _ _ 105 [some (.ref r0), none] [] g2 P
  exact sw_goto dX6_advance_105 (by decide) (sw_fg [true, false] rfl (k))
theorem b_X6_advance_108 {r0 : Nat} {l1 : Int32} {v2 : Int32} {g2 : ab_H} (hm2 : MSE m_X6_isDigit d [.int l1] h (some (.int v2)) g2) (kt : v2 = 0 → SW sc m_X6_advance (d + 1) rc rs 122 [some (.ref r0), some (.int l1)] [] g2 P) (kf : ¬ (v2 = 0) → SW sc m_X6_advance (d + 1) rc rs 115 [some (.ref r0), none] [] g2 P) : SW sc m_X6_advance (d + 1) rc rs 108 [some (.ref r0), some (.int l1)] [] h P := by
  refine sw_iload_n dX6_advance_108 rfl ?_
  refine sw_cS dX6_advance_109 ls_X6_151 hm2 rfl rfl (Nat.le_of_ble_eq_true rfl) (fun _ _ => rfl) rfl ?_
  show SW sc m_X6_advance _ _ _ 112 [some (.ref r0), some (.int l1)] [.int v2] g2 P
  exact sw_if_eq dX6_advance_112 (by decide) (fun q => (kt q)) (fun q => (sw_fg [false, true] rfl (kf q)))
theorem b_X6_advance_115 {r0 : Nat} {g2 : ab_H} {fs2 : List Value} (hr2 : (h)[r0]? = some (6, fs2)) (hm2 : MSE m_X6_advanceNumber d [.ref r0] h none g2) (k : SW sc m_X6_advance (d + 1) rc rs 147 [none, none] [] g2 P) : SW sc m_X6_advance (d + 1) rc rs 115 [some (.ref r0), none] [] h P := by
  refine sw_aload_n dX6_advance_115 rfl ?_
  refine sw_cV dX6_advance_116 lv_X6_154 hm2 hr2 rfl (by decide) rfl rfl rfl (Nat.le_of_ble_eq_true rfl) (fun _ _ => rfl) rfl ?_
  show SW sc m_X6_advance _ _ _ 119 [some (.ref r0), none] [] g2 P
  exact sw_goto dX6_advance_119 (by decide) (sw_fg [true, false] rfl (k))
theorem b_X6_advance_122 {r0 : Nat} {l1 : Int32} {fs3 : List Value} {x3 : Int32} {fs6 : List Value} (hc3 : (h)[r0]? = some (6, fs3)) (hv3 : fs3[3]? = some (.int x3)) (hc6 : (h)[r0]? = some (6, fs6)) (hk6 : 4 < fs6.length) (kt : ¬ l1 = 59 → SW sc m_X6_advance d rc rs 143 [none, none] [.ref r0] ((h).set r0 (6, fs6.set 4 (.int (x3 + 1)))) P) (kf : l1 = 59 → SW sc m_X6_advance d rc rs 139 [none, none] [.ref r0] ((h).set r0 (6, fs6.set 4 (.int (x3 + 1)))) P) : SW sc m_X6_advance d rc rs 122 [some (.ref r0), some (.int l1)] [] h P := by
  refine sw_aload_n dX6_advance_122 rfl ?_
  refine sw_aload_n dX6_advance_123 rfl ?_
  refine sw_getf dX6_advance_124 lf_X6_125 hc3 hv3 ?_
  refine sw_iconst (v := 1) dX6_advance_127 (by decide) ?_
  refine sw_iadd dX6_advance_128 ?_
  refine sw_putf dX6_advance_129 lp_X6_32 hc6 hk6 (fun _ _ => ⟨rfl, rfl⟩) ?_
  refine sw_aload_n dX6_advance_132 rfl ?_
  refine sw_iload_n dX6_advance_133 rfl ?_
  refine sw_bipush (v := 59) dX6_advance_134 (by decide) ?_
  exact sw_icmp_ne dX6_advance_136 (by decide) (fun q => (sw_fg [true, true] rfl (kt q))) (fun q => (sw_fg [true, true] rfl (kf q)))
theorem b_X6_advance_139 {q0 : Nat} (k : SW sc m_X6_advance d rc rs 144 [none, none] [.int 3, .ref q0] h P) : SW sc m_X6_advance d rc rs 139 [none, none] [.ref q0] h P := by
  refine sw_iconst (v := 3) dX6_advance_139 (by decide) ?_
  exact sw_goto dX6_advance_140 (by decide) (k)
theorem b_X6_advance_143 {q0 : Nat} (k : SW sc m_X6_advance d rc rs 144 [none, none] [.int 4, .ref q0] h P) : SW sc m_X6_advance d rc rs 143 [none, none] [.ref q0] h P := by
  refine sw_iconst (v := 4) dX6_advance_143 (by decide) ?_
  exact (k)
theorem b_X6_advance_144 {q0 : Nat} {s1 : Int32} {fs1 : List Value} (hc1 : (h)[q0]? = some (6, fs1)) (hk1 : 5 < fs1.length) (k : SW sc m_X6_advance d rc rs 147 [none, none] [] ((h).set q0 (6, fs1.set 5 (.int s1))) P) : SW sc m_X6_advance d rc rs 144 [none, none] [.int s1, .ref q0] h P := by
  refine sw_putf dX6_advance_144 lp_X6_46 hc1 hk1 (fun _ _ => ⟨rfl, rfl⟩) ?_
  exact (k)
theorem b_X6_advance_147  (hP : P (.inl none) h) : SW sc m_X6_advance d rc rs 147 [none, none] [] h P := by
  exact sw_ret (v := none) dX6_advance_147 rt_v hP
theorem b_X6_advanceWord_0 {r0 : Nat} {fs3 : List Value} {x3 : Int32} {fs4 : List Value} (hc3 : (h)[r0]? = some (6, fs3)) (hv3 : fs3[3]? = some (.int x3)) (hc4 : (h)[r0]? = some (6, fs4)) (hk4 : 4 < fs4.length) (k : SW sc m_X6_advanceWord d rc rs 8 [some (.ref r0)] [] ((h).set r0 (6, fs4.set 4 (.int x3))) P) : SW sc m_X6_advanceWord d rc rs 0 [some (.ref r0)] [] h P := by
  refine sw_aload_n dX6_advanceWord_0 rfl ?_
  refine sw_aload_n dX6_advanceWord_1 rfl ?_
  refine sw_getf dX6_advanceWord_2 lf_X6_125 hc3 hv3 ?_
  refine sw_putf dX6_advanceWord_5 lp_X6_32 hc4 hk4 (fun _ _ => ⟨rfl, rfl⟩) ?_
  exact (k)
theorem b_X6_advanceWord_8 {r0 : Nat} {fs2 : List Value} {x2 : Int32} {fs4 : List Value} {a4 : Nat} {fs5 : List Value} {x5 : Int32} (hc2 : (h)[r0]? = some (6, fs2)) (hv2 : fs2[4]? = some (.int x2)) (hc4 : (h)[r0]? = some (6, fs4)) (hv4 : fs4[0]? = some (.ref a4)) (hc5 : (h)[a4]? = some (0, fs5)) (hv5 : fs5[1]? = some (.int x5)) (kt : x5 ≤ x2 → SW sc m_X6_advanceWord d rc rs 52 [some (.ref r0)] [] h P) (kf : ¬ (x5 ≤ x2) → SW sc m_X6_advanceWord d rc rs 22 [some (.ref r0)] [] h P) : SW sc m_X6_advanceWord d rc rs 8 [some (.ref r0)] [] h P := by
  refine sw_aload_n dX6_advanceWord_8 rfl ?_
  refine sw_getf dX6_advanceWord_9 lf_X6_32 hc2 hv2 ?_
  refine sw_aload_n dX6_advanceWord_12 rfl ?_
  refine sw_getf dX6_advanceWord_13 lf_X6_12 hc4 hv4 ?_
  refine sw_getf dX6_advanceWord_16 lf_X6_140 hc5 hv5 ?_
  exact sw_icmp_ge dX6_advanceWord_19 (by decide) (fun q => (kt q)) (fun q => (kf q))
theorem b_X6_advanceWord_22 {r0 : Nat} {fs2 : List Value} {a2 : Nat} {fs4 : List Value} {x4 : Int32} {v5 : Int32} {g5 : ab_H} {fs5 : List Value} {v6 : Int32} {g6 : ab_H} (hc2 : (h)[r0]? = some (6, fs2)) (hv2 : fs2[0]? = some (.ref a2)) (hc4 : (h)[r0]? = some (6, fs4)) (hv4 : fs4[4]? = some (.int x4)) (hr5 : (h)[a2]? = some (0, fs5)) (hm5 : MSE m_X0_at d [.ref a2, .int x4] h (some (.int v5)) g5) (hm6 : MSE m_X6_isLetter d [.int v5] g5 (some (.int v6)) g6) (kt : v6 = 0 → SW sc m_X6_advanceWord (d + 1) rc rs 52 [some (.ref r0)] [] g6 P) (kf : ¬ (v6 = 0) → SW sc m_X6_advanceWord (d + 1) rc rs 39 [some (.ref r0)] [] g6 P) : SW sc m_X6_advanceWord (d + 1) rc rs 22 [some (.ref r0)] [] h P := by
  refine sw_aload_n dX6_advanceWord_22 rfl ?_
  refine sw_getf dX6_advanceWord_23 lf_X6_12 hc2 hv2 ?_
  refine sw_aload_n dX6_advanceWord_26 rfl ?_
  refine sw_getf dX6_advanceWord_27 lf_X6_32 hc4 hv4 ?_
  refine sw_cV dX6_advanceWord_30 lv_X6_133 hm5 hr5 rfl (by decide) rfl rfl rfl (Nat.le_of_ble_eq_true rfl) (fun _ _ => rfl) rfl ?_
  show SW sc m_X6_advanceWord _ _ _ 33 [some (.ref r0)] [.int v5] g5 P
  refine sw_cS dX6_advanceWord_33 ls_X6_145 hm6 rfl rfl (Nat.le_of_ble_eq_true rfl) (fun _ _ => rfl) rfl ?_
  show SW sc m_X6_advanceWord _ _ _ 36 [some (.ref r0)] [.int v6] g6 P
  exact sw_if_eq dX6_advanceWord_36 (by decide) (fun q => (kt q)) (fun q => (kf q))
theorem b_X6_advanceWord_39 {r0 : Nat} {fs3 : List Value} {x3 : Int32} {fs6 : List Value} (hc3 : (h)[r0]? = some (6, fs3)) (hv3 : fs3[4]? = some (.int x3)) (hc6 : (h)[r0]? = some (6, fs6)) (hk6 : 4 < fs6.length) (k : SW sc m_X6_advanceWord d rc rs 8 [some (.ref r0)] [] ((h).set r0 (6, fs6.set 4 (.int (x3 + 1)))) P) : SW sc m_X6_advanceWord d rc rs 39 [some (.ref r0)] [] h P := by
  refine sw_aload_n dX6_advanceWord_39 rfl ?_
  refine sw_dup dX6_advanceWord_40 (fun _ _ => rfl) ?_
  refine sw_getf dX6_advanceWord_41 lf_X6_32 hc3 hv3 ?_
  refine sw_iconst (v := 1) dX6_advanceWord_44 (by decide) ?_
  refine sw_iadd dX6_advanceWord_45 ?_
  refine sw_putf dX6_advanceWord_46 lp_X6_32 hc6 hk6 (fun _ _ => ⟨rfl, rfl⟩) ?_
  exact sw_goto dX6_advanceWord_49 (by decide) (k)
theorem b_X6_advanceWord_52 {r0 : Nat} {fs3 : List Value} (hc3 : (h)[r0]? = some (6, fs3)) (hk3 : 5 < fs3.length) (hP : P (.inl none) ((h).set r0 (6, fs3.set 5 (.int 1)))) : SW sc m_X6_advanceWord d rc rs 52 [some (.ref r0)] [] h P := by
  refine sw_aload_n dX6_advanceWord_52 rfl ?_
  refine sw_iconst (v := 1) dX6_advanceWord_53 (by decide) ?_
  refine sw_putf dX6_advanceWord_54 lp_X6_46 hc3 hk3 (fun _ _ => ⟨rfl, rfl⟩) ?_
  exact sw_ret (v := none) dX6_advanceWord_57 rt_v hP
theorem b_X6_advanceNumber_0 {r0 : Nat} {fs3 : List Value} {x3 : Int32} {fs4 : List Value} {fs7 : List Value} (hc3 : (h)[r0]? = some (6, fs3)) (hv3 : fs3[3]? = some (.int x3)) (hc4 : (h)[r0]? = some (6, fs4)) (hk4 : 4 < fs4.length) (hc7 : ((h).set r0 (6, fs4.set 4 (.int x3)))[r0]? = some (6, fs7)) (hk7 : 6 < fs7.length) (k : SW sc m_X6_advanceNumber d rc rs 13 [some (.ref r0)] [] (((h).set r0 (6, fs4.set 4 (.int x3))).set r0 (6, fs7.set 6 (.int 0))) P) : SW sc m_X6_advanceNumber d rc rs 0 [some (.ref r0)] [] h P := by
  refine sw_aload_n dX6_advanceNumber_0 rfl ?_
  refine sw_aload_n dX6_advanceNumber_1 rfl ?_
  refine sw_getf dX6_advanceNumber_2 lf_X6_125 hc3 hv3 ?_
  refine sw_putf dX6_advanceNumber_5 lp_X6_32 hc4 hk4 (fun _ _ => ⟨rfl, rfl⟩) ?_
  refine sw_aload_n dX6_advanceNumber_8 rfl ?_
  refine sw_iconst (v := 0) dX6_advanceNumber_9 (by decide) ?_
  refine sw_putf dX6_advanceNumber_10 lp_X6_69 hc7 hk7 (fun _ _ => ⟨rfl, rfl⟩) ?_
  exact (k)
theorem b_X6_advanceNumber_13 {r0 : Nat} {fs2 : List Value} {x2 : Int32} {fs4 : List Value} {a4 : Nat} {fs5 : List Value} {x5 : Int32} (hc2 : (h)[r0]? = some (6, fs2)) (hv2 : fs2[4]? = some (.int x2)) (hc4 : (h)[r0]? = some (6, fs4)) (hv4 : fs4[0]? = some (.ref a4)) (hc5 : (h)[a4]? = some (0, fs5)) (hv5 : fs5[1]? = some (.int x5)) (kt : x5 ≤ x2 → SW sc m_X6_advanceNumber d rc rs 83 [some (.ref r0)] [] h P) (kf : ¬ (x5 ≤ x2) → SW sc m_X6_advanceNumber d rc rs 27 [some (.ref r0)] [] h P) : SW sc m_X6_advanceNumber d rc rs 13 [some (.ref r0)] [] h P := by
  refine sw_aload_n dX6_advanceNumber_13 rfl ?_
  refine sw_getf dX6_advanceNumber_14 lf_X6_32 hc2 hv2 ?_
  refine sw_aload_n dX6_advanceNumber_17 rfl ?_
  refine sw_getf dX6_advanceNumber_18 lf_X6_12 hc4 hv4 ?_
  refine sw_getf dX6_advanceNumber_21 lf_X6_140 hc5 hv5 ?_
  exact sw_icmp_ge dX6_advanceNumber_24 (by decide) (fun q => (kt q)) (fun q => (kf q))
theorem b_X6_advanceNumber_27 {r0 : Nat} {fs2 : List Value} {a2 : Nat} {fs4 : List Value} {x4 : Int32} {v5 : Int32} {g5 : ab_H} {fs5 : List Value} {v6 : Int32} {g6 : ab_H} (hc2 : (h)[r0]? = some (6, fs2)) (hv2 : fs2[0]? = some (.ref a2)) (hc4 : (h)[r0]? = some (6, fs4)) (hv4 : fs4[4]? = some (.int x4)) (hr5 : (h)[a2]? = some (0, fs5)) (hm5 : MSE m_X0_at d [.ref a2, .int x4] h (some (.int v5)) g5) (hm6 : MSE m_X6_isDigit d [.int v5] g5 (some (.int v6)) g6) (kt : v6 = 0 → SW sc m_X6_advanceNumber (d + 1) rc rs 83 [some (.ref r0)] [] g6 P) (kf : ¬ (v6 = 0) → SW sc m_X6_advanceNumber (d + 1) rc rs 44 [some (.ref r0)] [] g6 P) : SW sc m_X6_advanceNumber (d + 1) rc rs 27 [some (.ref r0)] [] h P := by
  refine sw_aload_n dX6_advanceNumber_27 rfl ?_
  refine sw_getf dX6_advanceNumber_28 lf_X6_12 hc2 hv2 ?_
  refine sw_aload_n dX6_advanceNumber_31 rfl ?_
  refine sw_getf dX6_advanceNumber_32 lf_X6_32 hc4 hv4 ?_
  refine sw_cV dX6_advanceNumber_35 lv_X6_133 hm5 hr5 rfl (by decide) rfl rfl rfl (Nat.le_of_ble_eq_true rfl) (fun _ _ => rfl) rfl ?_
  show SW sc m_X6_advanceNumber _ _ _ 38 [some (.ref r0)] [.int v5] g5 P
  refine sw_cS dX6_advanceNumber_38 ls_X6_151 hm6 rfl rfl (Nat.le_of_ble_eq_true rfl) (fun _ _ => rfl) rfl ?_
  show SW sc m_X6_advanceNumber _ _ _ 41 [some (.ref r0)] [.int v6] g6 P
  exact sw_if_eq dX6_advanceNumber_41 (by decide) (fun q => (kt q)) (fun q => (kf q))
theorem b_X6_advanceNumber_44 {r0 : Nat} {fs4 : List Value} {x4 : Int32} {fs7 : List Value} {a7 : Nat} {fs9 : List Value} {x9 : Int32} {v10 : Int32} {g10 : ab_H} {fs10 : List Value} {fs14 : List Value} {fs17 : List Value} {x17 : Int32} {fs20 : List Value} (hc4 : (h)[r0]? = some (6, fs4)) (hv4 : fs4[6]? = some (.int x4)) (hc7 : (h)[r0]? = some (6, fs7)) (hv7 : fs7[0]? = some (.ref a7)) (hc9 : (h)[r0]? = some (6, fs9)) (hv9 : fs9[4]? = some (.int x9)) (hr10 : (h)[a7]? = some (0, fs10)) (hm10 : MSE m_X0_at d [.ref a7, .int x9] h (some (.int v10)) g10) (hc14 : (g10)[r0]? = some (6, fs14)) (hk14 : 6 < fs14.length) (hc17 : ((g10).set r0 (6, fs14.set 6 (.int (((10 * x4) + v10) - 48))))[r0]? = some (6, fs17)) (hv17 : fs17[4]? = some (.int x17)) (hc20 : ((g10).set r0 (6, fs14.set 6 (.int (((10 * x4) + v10) - 48))))[r0]? = some (6, fs20)) (hk20 : 4 < fs20.length) (k : SW sc m_X6_advanceNumber (d + 1) rc rs 13 [some (.ref r0)] [] (((g10).set r0 (6, fs14.set 6 (.int (((10 * x4) + v10) - 48)))).set r0 (6, fs20.set 4 (.int (x17 + 1)))) P) : SW sc m_X6_advanceNumber (d + 1) rc rs 44 [some (.ref r0)] [] h P := by
  refine sw_aload_n dX6_advanceNumber_44 rfl ?_
  refine sw_bipush (v := 10) dX6_advanceNumber_45 (by decide) ?_
  refine sw_aload_n dX6_advanceNumber_47 rfl ?_
  refine sw_getf dX6_advanceNumber_48 lf_X6_69 hc4 hv4 ?_
  refine sw_imul dX6_advanceNumber_51 ?_
  refine sw_aload_n dX6_advanceNumber_52 rfl ?_
  refine sw_getf dX6_advanceNumber_53 lf_X6_12 hc7 hv7 ?_
  refine sw_aload_n dX6_advanceNumber_56 rfl ?_
  refine sw_getf dX6_advanceNumber_57 lf_X6_32 hc9 hv9 ?_
  refine sw_cV dX6_advanceNumber_60 lv_X6_133 hm10 hr10 rfl (by decide) rfl rfl rfl (Nat.le_of_ble_eq_true rfl) (fun _ _ => rfl) rfl ?_
  show SW sc m_X6_advanceNumber _ _ _ 63 [some (.ref r0)] [.int v10, .int (10 * x4), .ref r0] g10 P
  refine sw_iadd dX6_advanceNumber_63 ?_
  refine sw_bipush (v := 48) dX6_advanceNumber_64 (by decide) ?_
  refine sw_isub dX6_advanceNumber_66 ?_
  refine sw_putf dX6_advanceNumber_67 lp_X6_69 hc14 hk14 (fun _ _ => ⟨rfl, rfl⟩) ?_
  refine sw_aload_n dX6_advanceNumber_70 rfl ?_
  refine sw_dup dX6_advanceNumber_71 (fun _ _ => rfl) ?_
  refine sw_getf dX6_advanceNumber_72 lf_X6_32 hc17 hv17 ?_
  refine sw_iconst (v := 1) dX6_advanceNumber_75 (by decide) ?_
  refine sw_iadd dX6_advanceNumber_76 ?_
  refine sw_putf dX6_advanceNumber_77 lp_X6_32 hc20 hk20 (fun _ _ => ⟨rfl, rfl⟩) ?_
  exact sw_goto dX6_advanceNumber_80 (by decide) (k)
theorem b_X6_advanceNumber_83 {r0 : Nat} {fs3 : List Value} {x3 : Int32} {fs5 : List Value} {x5 : Int32} (hc3 : (h)[r0]? = some (6, fs3)) (hv3 : fs3[4]? = some (.int x3)) (hc5 : (h)[r0]? = some (6, fs5)) (hv5 : fs5[3]? = some (.int x5)) (kt : (x3 - x5) ≤ 2 → SW sc m_X6_advanceNumber d rc rs 101 [none] [.ref r0] h P) (kf : ¬ ((x3 - x5) ≤ 2) → SW sc m_X6_advanceNumber d rc rs 97 [none] [.ref r0] h P) : SW sc m_X6_advanceNumber d rc rs 83 [some (.ref r0)] [] h P := by
  refine sw_aload_n dX6_advanceNumber_83 rfl ?_
  refine sw_aload_n dX6_advanceNumber_84 rfl ?_
  refine sw_getf dX6_advanceNumber_85 lf_X6_32 hc3 hv3 ?_
  refine sw_aload_n dX6_advanceNumber_88 rfl ?_
  refine sw_getf dX6_advanceNumber_89 lf_X6_125 hc5 hv5 ?_
  refine sw_isub dX6_advanceNumber_92 ?_
  refine sw_iconst (v := 2) dX6_advanceNumber_93 (by decide) ?_
  exact sw_icmp_le dX6_advanceNumber_94 (by decide) (fun q => (sw_fg [true] rfl (kt q))) (fun q => (sw_fg [true] rfl (kf q)))
theorem b_X6_advanceNumber_97 {q0 : Nat} (k : SW sc m_X6_advanceNumber d rc rs 102 [none] [.int 4, .ref q0] h P) : SW sc m_X6_advanceNumber d rc rs 97 [none] [.ref q0] h P := by
  refine sw_iconst (v := 4) dX6_advanceNumber_97 (by decide) ?_
  exact sw_goto dX6_advanceNumber_98 (by decide) (k)
theorem b_X6_advanceNumber_101 {q0 : Nat} (k : SW sc m_X6_advanceNumber d rc rs 102 [none] [.int 2, .ref q0] h P) : SW sc m_X6_advanceNumber d rc rs 101 [none] [.ref q0] h P := by
  refine sw_iconst (v := 2) dX6_advanceNumber_101 (by decide) ?_
  exact (k)
theorem b_X6_advanceNumber_102 {q0 : Nat} {s1 : Int32} {fs1 : List Value} (hc1 : (h)[q0]? = some (6, fs1)) (hk1 : 5 < fs1.length) (hP : P (.inl none) ((h).set q0 (6, fs1.set 5 (.int s1)))) : SW sc m_X6_advanceNumber d rc rs 102 [none] [.int s1, .ref q0] h P := by
  refine sw_putf dX6_advanceNumber_102 lp_X6_46 hc1 hk1 (fun _ _ => ⟨rfl, rfl⟩) ?_
  exact sw_ret (v := none) dX6_advanceNumber_105 rt_v hP
theorem b_X6_isBlank_0 {l0 : Int32} (kt : l0 = 32 → SW sc m_X6_isBlank d rc rs 12 [none] [] h P) (kf : ¬ (l0 = 32) → SW sc m_X6_isBlank d rc rs 6 [some (.int l0)] [] h P) : SW sc m_X6_isBlank d rc rs 0 [some (.int l0)] [] h P := by
  refine sw_iload_n dX6_isBlank_0 rfl ?_
  refine sw_bipush (v := 32) dX6_isBlank_1 (by decide) ?_
  exact sw_icmp_eq dX6_isBlank_3 (by decide) (fun q => (sw_fg [true] rfl (kt q))) (fun q => (kf q))
theorem b_X6_isBlank_6 {l0 : Int32} (kt : ¬ l0 = 10 → SW sc m_X6_isBlank d rc rs 16 [none] [] h P) (kf : l0 = 10 → SW sc m_X6_isBlank d rc rs 12 [none] [] h P) : SW sc m_X6_isBlank d rc rs 6 [some (.int l0)] [] h P := by
  refine sw_iload_n dX6_isBlank_6 rfl ?_
  refine sw_bipush (v := 10) dX6_isBlank_7 (by decide) ?_
  exact sw_icmp_ne dX6_isBlank_9 (by decide) (fun q => (sw_fg [true] rfl (kt q))) (fun q => (sw_fg [true] rfl (kf q)))
theorem b_X6_isBlank_12  (k : SW sc m_X6_isBlank d rc rs 17 [none] [.int 1] h P) : SW sc m_X6_isBlank d rc rs 12 [none] [] h P := by
  refine sw_iconst (v := 1) dX6_isBlank_12 (by decide) ?_
  exact sw_goto dX6_isBlank_13 (by decide) (k)
theorem b_X6_isBlank_16  (k : SW sc m_X6_isBlank d rc rs 17 [none] [.int 0] h P) : SW sc m_X6_isBlank d rc rs 16 [none] [] h P := by
  refine sw_iconst (v := 0) dX6_isBlank_16 (by decide) ?_
  exact (k)
theorem b_X6_isBlank_17 {s0 : Int32} (hz1 : narrow .boolean (.int s0) = .int s0) (hP : P (.inl (some (.int s0))) h) : SW sc m_X6_isBlank d rc rs 17 [none] [.int s0] h P := by
  exact sw_ret (v := (some (.int s0))) dX6_isBlank_17 (rt_n hz1) hP
theorem b_X6_isLetter_0 {l0 : Int32} (kt : l0 < 97 → SW sc m_X6_isLetter d rc rs 16 [none] [] h P) (kf : ¬ (l0 < 97) → SW sc m_X6_isLetter d rc rs 6 [some (.int l0)] [] h P) : SW sc m_X6_isLetter d rc rs 0 [some (.int l0)] [] h P := by
  refine sw_iload_n dX6_isLetter_0 rfl ?_
  refine sw_bipush (v := 97) dX6_isLetter_1 (by decide) ?_
  exact sw_icmp_lt dX6_isLetter_3 (by decide) (fun q => (sw_fg [true] rfl (kt q))) (fun q => (kf q))
theorem b_X6_isLetter_6 {l0 : Int32} (kt : 122 < l0 → SW sc m_X6_isLetter d rc rs 16 [none] [] h P) (kf : ¬ (122 < l0) → SW sc m_X6_isLetter d rc rs 12 [none] [] h P) : SW sc m_X6_isLetter d rc rs 6 [some (.int l0)] [] h P := by
  refine sw_iload_n dX6_isLetter_6 rfl ?_
  refine sw_bipush (v := 122) dX6_isLetter_7 (by decide) ?_
  exact sw_icmp_gt dX6_isLetter_9 (by decide) (fun q => (sw_fg [true] rfl (kt q))) (fun q => (sw_fg [true] rfl (kf q)))
theorem b_X6_isLetter_12  (k : SW sc m_X6_isLetter d rc rs 17 [none] [.int 1] h P) : SW sc m_X6_isLetter d rc rs 12 [none] [] h P := by
  refine sw_iconst (v := 1) dX6_isLetter_12 (by decide) ?_
  exact sw_goto dX6_isLetter_13 (by decide) (k)
theorem b_X6_isLetter_16  (k : SW sc m_X6_isLetter d rc rs 17 [none] [.int 0] h P) : SW sc m_X6_isLetter d rc rs 16 [none] [] h P := by
  refine sw_iconst (v := 0) dX6_isLetter_16 (by decide) ?_
  exact (k)
theorem b_X6_isLetter_17 {s0 : Int32} (hz1 : narrow .boolean (.int s0) = .int s0) (hP : P (.inl (some (.int s0))) h) : SW sc m_X6_isLetter d rc rs 17 [none] [.int s0] h P := by
  exact sw_ret (v := (some (.int s0))) dX6_isLetter_17 (rt_n hz1) hP
theorem b_X6_isDigit_0 {l0 : Int32} (kt : l0 < 48 → SW sc m_X6_isDigit d rc rs 16 [none] [] h P) (kf : ¬ (l0 < 48) → SW sc m_X6_isDigit d rc rs 6 [some (.int l0)] [] h P) : SW sc m_X6_isDigit d rc rs 0 [some (.int l0)] [] h P := by
  refine sw_iload_n dX6_isDigit_0 rfl ?_
  refine sw_bipush (v := 48) dX6_isDigit_1 (by decide) ?_
  exact sw_icmp_lt dX6_isDigit_3 (by decide) (fun q => (sw_fg [true] rfl (kt q))) (fun q => (kf q))
theorem b_X6_isDigit_6 {l0 : Int32} (kt : 57 < l0 → SW sc m_X6_isDigit d rc rs 16 [none] [] h P) (kf : ¬ (57 < l0) → SW sc m_X6_isDigit d rc rs 12 [none] [] h P) : SW sc m_X6_isDigit d rc rs 6 [some (.int l0)] [] h P := by
  refine sw_iload_n dX6_isDigit_6 rfl ?_
  refine sw_bipush (v := 57) dX6_isDigit_7 (by decide) ?_
  exact sw_icmp_gt dX6_isDigit_9 (by decide) (fun q => (sw_fg [true] rfl (kt q))) (fun q => (sw_fg [true] rfl (kf q)))
theorem b_X6_isDigit_12  (k : SW sc m_X6_isDigit d rc rs 17 [none] [.int 1] h P) : SW sc m_X6_isDigit d rc rs 12 [none] [] h P := by
  refine sw_iconst (v := 1) dX6_isDigit_12 (by decide) ?_
  exact sw_goto dX6_isDigit_13 (by decide) (k)
theorem b_X6_isDigit_16  (k : SW sc m_X6_isDigit d rc rs 17 [none] [.int 0] h P) : SW sc m_X6_isDigit d rc rs 16 [none] [] h P := by
  refine sw_iconst (v := 0) dX6_isDigit_16 (by decide) ?_
  exact (k)
theorem b_X6_isDigit_17 {s0 : Int32} (hz1 : narrow .boolean (.int s0) = .int s0) (hP : P (.inl (some (.int s0))) h) : SW sc m_X6_isDigit d rc rs 17 [none] [.int s0] h P := by
  exact sw_ret (v := (some (.int s0))) dX6_isDigit_17 (rt_n hz1) hP
theorem b_J6_numberOfTrailingZeros_0f7a4_0 {l0 : Int32} (kt : 0 < ((l0 ^^^ (-1)) &&& (l0 - 1)) → SW sc m_J6_numberOfTrailingZeros_0f7a4 d rc rs 17 [some (.int ((l0 ^^^ (-1)) &&& (l0 - 1))), none] [] h P) (kf : ¬ (0 < ((l0 ^^^ (-1)) &&& (l0 - 1))) → SW sc m_J6_numberOfTrailingZeros_0f7a4 d rc rs 12 [some (.int ((l0 ^^^ (-1)) &&& (l0 - 1))), none] [] h P) : SW sc m_J6_numberOfTrailingZeros_0f7a4 d rc rs 0 [some (.int l0), none] [] h P := by
  refine sw_iload_n dJ6_numberOfTrailingZeros_0f7a4_0 rfl ?_
  refine sw_iconst (v := (-1)) dJ6_numberOfTrailingZeros_0f7a4_1 (by decide) ?_
  refine sw_ixor dJ6_numberOfTrailingZeros_0f7a4_2 ?_
  refine sw_iload_n dJ6_numberOfTrailingZeros_0f7a4_3 rfl ?_
  refine sw_iconst (v := 1) dJ6_numberOfTrailingZeros_0f7a4_4 (by decide) ?_
  refine sw_isub dJ6_numberOfTrailingZeros_0f7a4_5 ?_
  refine sw_iand dJ6_numberOfTrailingZeros_0f7a4_6 ?_
  refine sw_istore_n dJ6_numberOfTrailingZeros_0f7a4_7 (by decide) rfl ?_
  show SW sc m_J6_numberOfTrailingZeros_0f7a4 _ _ _ 8 [some (.int ((l0 ^^^ (-1)) &&& (l0 - 1))), none] [] h P
  refine sw_iload_n dJ6_numberOfTrailingZeros_0f7a4_8 rfl ?_
  exact sw_if_gt dJ6_numberOfTrailingZeros_0f7a4_9 (by decide) (fun q => (kt q)) (fun q => (kf q))
theorem b_J6_numberOfTrailingZeros_0f7a4_12 {l0 : Int32} (hP : P (.inl (some (.int (l0 &&& 32)))) h) : SW sc m_J6_numberOfTrailingZeros_0f7a4 d rc rs 12 [some (.int l0), none] [] h P := by
  refine sw_iload_n dJ6_numberOfTrailingZeros_0f7a4_12 rfl ?_
  refine sw_bipush (v := 32) dJ6_numberOfTrailingZeros_0f7a4_13 (by decide) ?_
  refine sw_iand dJ6_numberOfTrailingZeros_0f7a4_15 ?_
  exact sw_ret (v := (some (.int (l0 &&& 32)))) dJ6_numberOfTrailingZeros_0f7a4_16 rt_i hP
theorem b_J6_numberOfTrailingZeros_0f7a4_17 {l0 : Int32} (kt : l0 ≤ 65536 → SW sc m_J6_numberOfTrailingZeros_0f7a4 d rc rs 34 [some (.int l0), some (.int 1)] [] h P) (kf : ¬ (l0 ≤ 65536) → SW sc m_J6_numberOfTrailingZeros_0f7a4 d rc rs 26 [some (.int l0), some (.int 1)] [] h P) : SW sc m_J6_numberOfTrailingZeros_0f7a4 d rc rs 17 [some (.int l0), none] [] h P := by
  refine sw_iconst (v := 1) dJ6_numberOfTrailingZeros_0f7a4_17 (by decide) ?_
  refine sw_istore_n dJ6_numberOfTrailingZeros_0f7a4_18 (by decide) rfl ?_
  show SW sc m_J6_numberOfTrailingZeros_0f7a4 _ _ _ 19 [some (.int l0), some (.int 1)] [] h P
  refine sw_iload_n dJ6_numberOfTrailingZeros_0f7a4_19 rfl ?_
  refine sw_ldcI dJ6_numberOfTrailingZeros_0f7a4_20 ct_J6_264 ?_
  exact sw_icmp_le dJ6_numberOfTrailingZeros_0f7a4_23 (by decide) (fun q => (kt q)) (fun q => (kf q))
theorem b_J6_numberOfTrailingZeros_0f7a4_26 {l0 : Int32} {l1 : Int32} (k : SW sc m_J6_numberOfTrailingZeros_0f7a4 d rc rs 34 [some (.int ((l0.toUInt32 >>> ((16 : Int32).toUInt32 &&& Int32.toUInt32 31)).toInt32)), some (.int (l1 + 16))] [] h P) : SW sc m_J6_numberOfTrailingZeros_0f7a4 d rc rs 26 [some (.int l0), some (.int l1)] [] h P := by
  refine sw_iinc (v := l1 + 16) dJ6_numberOfTrailingZeros_0f7a4_26 rfl rfl (by decide) rfl ?_
  show SW sc m_J6_numberOfTrailingZeros_0f7a4 _ _ _ 29 [some (.int l0), some (.int (l1 + 16))] [] h P
  refine sw_iload_n dJ6_numberOfTrailingZeros_0f7a4_29 rfl ?_
  refine sw_bipush (v := 16) dJ6_numberOfTrailingZeros_0f7a4_30 (by decide) ?_
  refine sw_iushr dJ6_numberOfTrailingZeros_0f7a4_32 ?_
  refine sw_istore_n dJ6_numberOfTrailingZeros_0f7a4_33 (by decide) rfl ?_
  show SW sc m_J6_numberOfTrailingZeros_0f7a4 _ _ _ 34 [some (.int ((l0.toUInt32 >>> ((16 : Int32).toUInt32 &&& Int32.toUInt32 31)).toInt32)), some (.int (l1 + 16))] [] h P
  exact (k)
theorem b_J6_numberOfTrailingZeros_0f7a4_34 {l0 : Int32} {l1 : Int32} (kt : l0 ≤ 256 → SW sc m_J6_numberOfTrailingZeros_0f7a4 d rc rs 49 [some (.int l0), some (.int l1)] [] h P) (kf : ¬ (l0 ≤ 256) → SW sc m_J6_numberOfTrailingZeros_0f7a4 d rc rs 41 [some (.int l0), some (.int l1)] [] h P) : SW sc m_J6_numberOfTrailingZeros_0f7a4 d rc rs 34 [some (.int l0), some (.int l1)] [] h P := by
  refine sw_iload_n dJ6_numberOfTrailingZeros_0f7a4_34 rfl ?_
  refine sw_sipush (v := 256) dJ6_numberOfTrailingZeros_0f7a4_35 (by decide) ?_
  exact sw_icmp_le dJ6_numberOfTrailingZeros_0f7a4_38 (by decide) (fun q => (kt q)) (fun q => (kf q))
theorem b_J6_numberOfTrailingZeros_0f7a4_41 {l0 : Int32} {l1 : Int32} (k : SW sc m_J6_numberOfTrailingZeros_0f7a4 d rc rs 49 [some (.int ((l0.toUInt32 >>> ((8 : Int32).toUInt32 &&& Int32.toUInt32 31)).toInt32)), some (.int (l1 + 8))] [] h P) : SW sc m_J6_numberOfTrailingZeros_0f7a4 d rc rs 41 [some (.int l0), some (.int l1)] [] h P := by
  refine sw_iinc (v := l1 + 8) dJ6_numberOfTrailingZeros_0f7a4_41 rfl rfl (by decide) rfl ?_
  show SW sc m_J6_numberOfTrailingZeros_0f7a4 _ _ _ 44 [some (.int l0), some (.int (l1 + 8))] [] h P
  refine sw_iload_n dJ6_numberOfTrailingZeros_0f7a4_44 rfl ?_
  refine sw_bipush (v := 8) dJ6_numberOfTrailingZeros_0f7a4_45 (by decide) ?_
  refine sw_iushr dJ6_numberOfTrailingZeros_0f7a4_47 ?_
  refine sw_istore_n dJ6_numberOfTrailingZeros_0f7a4_48 (by decide) rfl ?_
  show SW sc m_J6_numberOfTrailingZeros_0f7a4 _ _ _ 49 [some (.int ((l0.toUInt32 >>> ((8 : Int32).toUInt32 &&& Int32.toUInt32 31)).toInt32)), some (.int (l1 + 8))] [] h P
  exact (k)
theorem b_J6_numberOfTrailingZeros_0f7a4_49 {l0 : Int32} {l1 : Int32} (kt : l0 ≤ 16 → SW sc m_J6_numberOfTrailingZeros_0f7a4 d rc rs 62 [some (.int l0), some (.int l1)] [] h P) (kf : ¬ (l0 ≤ 16) → SW sc m_J6_numberOfTrailingZeros_0f7a4 d rc rs 55 [some (.int l0), some (.int l1)] [] h P) : SW sc m_J6_numberOfTrailingZeros_0f7a4 d rc rs 49 [some (.int l0), some (.int l1)] [] h P := by
  refine sw_iload_n dJ6_numberOfTrailingZeros_0f7a4_49 rfl ?_
  refine sw_bipush (v := 16) dJ6_numberOfTrailingZeros_0f7a4_50 (by decide) ?_
  exact sw_icmp_le dJ6_numberOfTrailingZeros_0f7a4_52 (by decide) (fun q => (kt q)) (fun q => (kf q))
theorem b_J6_numberOfTrailingZeros_0f7a4_55 {l0 : Int32} {l1 : Int32} (k : SW sc m_J6_numberOfTrailingZeros_0f7a4 d rc rs 62 [some (.int ((l0.toUInt32 >>> ((4 : Int32).toUInt32 &&& Int32.toUInt32 31)).toInt32)), some (.int (l1 + 4))] [] h P) : SW sc m_J6_numberOfTrailingZeros_0f7a4 d rc rs 55 [some (.int l0), some (.int l1)] [] h P := by
  refine sw_iinc (v := l1 + 4) dJ6_numberOfTrailingZeros_0f7a4_55 rfl rfl (by decide) rfl ?_
  show SW sc m_J6_numberOfTrailingZeros_0f7a4 _ _ _ 58 [some (.int l0), some (.int (l1 + 4))] [] h P
  refine sw_iload_n dJ6_numberOfTrailingZeros_0f7a4_58 rfl ?_
  refine sw_iconst (v := 4) dJ6_numberOfTrailingZeros_0f7a4_59 (by decide) ?_
  refine sw_iushr dJ6_numberOfTrailingZeros_0f7a4_60 ?_
  refine sw_istore_n dJ6_numberOfTrailingZeros_0f7a4_61 (by decide) rfl ?_
  show SW sc m_J6_numberOfTrailingZeros_0f7a4 _ _ _ 62 [some (.int ((l0.toUInt32 >>> ((4 : Int32).toUInt32 &&& Int32.toUInt32 31)).toInt32)), some (.int (l1 + 4))] [] h P
  exact (k)
theorem b_J6_numberOfTrailingZeros_0f7a4_62 {l0 : Int32} {l1 : Int32} (kt : l0 ≤ 4 → SW sc m_J6_numberOfTrailingZeros_0f7a4 d rc rs 74 [some (.int l0), some (.int l1)] [] h P) (kf : ¬ (l0 ≤ 4) → SW sc m_J6_numberOfTrailingZeros_0f7a4 d rc rs 67 [some (.int l0), some (.int l1)] [] h P) : SW sc m_J6_numberOfTrailingZeros_0f7a4 d rc rs 62 [some (.int l0), some (.int l1)] [] h P := by
  refine sw_iload_n dJ6_numberOfTrailingZeros_0f7a4_62 rfl ?_
  refine sw_iconst (v := 4) dJ6_numberOfTrailingZeros_0f7a4_63 (by decide) ?_
  exact sw_icmp_le dJ6_numberOfTrailingZeros_0f7a4_64 (by decide) (fun q => (kt q)) (fun q => (kf q))
theorem b_J6_numberOfTrailingZeros_0f7a4_67 {l0 : Int32} {l1 : Int32} (k : SW sc m_J6_numberOfTrailingZeros_0f7a4 d rc rs 74 [some (.int ((l0.toUInt32 >>> ((2 : Int32).toUInt32 &&& Int32.toUInt32 31)).toInt32)), some (.int (l1 + 2))] [] h P) : SW sc m_J6_numberOfTrailingZeros_0f7a4 d rc rs 67 [some (.int l0), some (.int l1)] [] h P := by
  refine sw_iinc (v := l1 + 2) dJ6_numberOfTrailingZeros_0f7a4_67 rfl rfl (by decide) rfl ?_
  show SW sc m_J6_numberOfTrailingZeros_0f7a4 _ _ _ 70 [some (.int l0), some (.int (l1 + 2))] [] h P
  refine sw_iload_n dJ6_numberOfTrailingZeros_0f7a4_70 rfl ?_
  refine sw_iconst (v := 2) dJ6_numberOfTrailingZeros_0f7a4_71 (by decide) ?_
  refine sw_iushr dJ6_numberOfTrailingZeros_0f7a4_72 ?_
  refine sw_istore_n dJ6_numberOfTrailingZeros_0f7a4_73 (by decide) rfl ?_
  show SW sc m_J6_numberOfTrailingZeros_0f7a4 _ _ _ 74 [some (.int ((l0.toUInt32 >>> ((2 : Int32).toUInt32 &&& Int32.toUInt32 31)).toInt32)), some (.int (l1 + 2))] [] h P
  exact (k)
theorem b_J6_numberOfTrailingZeros_0f7a4_74 {l0 : Int32} {l1 : Int32} (hP : P (.inl (some (.int (l1 + ((l0.toUInt32 >>> ((1 : Int32).toUInt32 &&& Int32.toUInt32 31)).toInt32))))) h) : SW sc m_J6_numberOfTrailingZeros_0f7a4 d rc rs 74 [some (.int l0), some (.int l1)] [] h P := by
  refine sw_iload_n dJ6_numberOfTrailingZeros_0f7a4_74 rfl ?_
  refine sw_iload_n dJ6_numberOfTrailingZeros_0f7a4_75 rfl ?_
  refine sw_iconst (v := 1) dJ6_numberOfTrailingZeros_0f7a4_76 (by decide) ?_
  refine sw_iushr dJ6_numberOfTrailingZeros_0f7a4_77 ?_
  refine sw_iadd dJ6_numberOfTrailingZeros_0f7a4_78 ?_
  exact sw_ret (v := (some (.int (l1 + ((l0.toUInt32 >>> ((1 : Int32).toUInt32 &&& Int32.toUInt32 31)).toInt32))))) dJ6_numberOfTrailingZeros_0f7a4_79 rt_i hP
theorem b_J6_bitCount_0f7a4_0 {l0 : Int32} (hP : P (.inl (some (.int ((((((((l0 - (((l0.toUInt32 >>> ((1 : Int32).toUInt32 &&& Int32.toUInt32 31)).toInt32) &&& 1431655765)) &&& 858993459) + ((((l0 - (((l0.toUInt32 >>> ((1 : Int32).toUInt32 &&& Int32.toUInt32 31)).toInt32) &&& 1431655765)).toUInt32 >>> ((2 : Int32).toUInt32 &&& Int32.toUInt32 31)).toInt32) &&& 858993459)) + (((((l0 - (((l0.toUInt32 >>> ((1 : Int32).toUInt32 &&& Int32.toUInt32 31)).toInt32) &&& 1431655765)) &&& 858993459) + ((((l0 - (((l0.toUInt32 >>> ((1 : Int32).toUInt32 &&& Int32.toUInt32 31)).toInt32) &&& 1431655765)).toUInt32 >>> ((2 : Int32).toUInt32 &&& Int32.toUInt32 31)).toInt32) &&& 858993459)).toUInt32 >>> ((4 : Int32).toUInt32 &&& Int32.toUInt32 31)).toInt32)) &&& 252645135) + (((((((l0 - (((l0.toUInt32 >>> ((1 : Int32).toUInt32 &&& Int32.toUInt32 31)).toInt32) &&& 1431655765)) &&& 858993459) + ((((l0 - (((l0.toUInt32 >>> ((1 : Int32).toUInt32 &&& Int32.toUInt32 31)).toInt32) &&& 1431655765)).toUInt32 >>> ((2 : Int32).toUInt32 &&& Int32.toUInt32 31)).toInt32) &&& 858993459)) + (((((l0 - (((l0.toUInt32 >>> ((1 : Int32).toUInt32 &&& Int32.toUInt32 31)).toInt32) &&& 1431655765)) &&& 858993459) + ((((l0 - (((l0.toUInt32 >>> ((1 : Int32).toUInt32 &&& Int32.toUInt32 31)).toInt32) &&& 1431655765)).toUInt32 >>> ((2 : Int32).toUInt32 &&& Int32.toUInt32 31)).toInt32) &&& 858993459)).toUInt32 >>> ((4 : Int32).toUInt32 &&& Int32.toUInt32 31)).toInt32)) &&& 252645135).toUInt32 >>> ((8 : Int32).toUInt32 &&& Int32.toUInt32 31)).toInt32)) + ((((((((l0 - (((l0.toUInt32 >>> ((1 : Int32).toUInt32 &&& Int32.toUInt32 31)).toInt32) &&& 1431655765)) &&& 858993459) + ((((l0 - (((l0.toUInt32 >>> ((1 : Int32).toUInt32 &&& Int32.toUInt32 31)).toInt32) &&& 1431655765)).toUInt32 >>> ((2 : Int32).toUInt32 &&& Int32.toUInt32 31)).toInt32) &&& 858993459)) + (((((l0 - (((l0.toUInt32 >>> ((1 : Int32).toUInt32 &&& Int32.toUInt32 31)).toInt32) &&& 1431655765)) &&& 858993459) + ((((l0 - (((l0.toUInt32 >>> ((1 : Int32).toUInt32 &&& Int32.toUInt32 31)).toInt32) &&& 1431655765)).toUInt32 >>> ((2 : Int32).toUInt32 &&& Int32.toUInt32 31)).toInt32) &&& 858993459)).toUInt32 >>> ((4 : Int32).toUInt32 &&& Int32.toUInt32 31)).toInt32)) &&& 252645135) + (((((((l0 - (((l0.toUInt32 >>> ((1 : Int32).toUInt32 &&& Int32.toUInt32 31)).toInt32) &&& 1431655765)) &&& 858993459) + ((((l0 - (((l0.toUInt32 >>> ((1 : Int32).toUInt32 &&& Int32.toUInt32 31)).toInt32) &&& 1431655765)).toUInt32 >>> ((2 : Int32).toUInt32 &&& Int32.toUInt32 31)).toInt32) &&& 858993459)) + (((((l0 - (((l0.toUInt32 >>> ((1 : Int32).toUInt32 &&& Int32.toUInt32 31)).toInt32) &&& 1431655765)) &&& 858993459) + ((((l0 - (((l0.toUInt32 >>> ((1 : Int32).toUInt32 &&& Int32.toUInt32 31)).toInt32) &&& 1431655765)).toUInt32 >>> ((2 : Int32).toUInt32 &&& Int32.toUInt32 31)).toInt32) &&& 858993459)).toUInt32 >>> ((4 : Int32).toUInt32 &&& Int32.toUInt32 31)).toInt32)) &&& 252645135).toUInt32 >>> ((8 : Int32).toUInt32 &&& Int32.toUInt32 31)).toInt32)).toUInt32 >>> ((16 : Int32).toUInt32 &&& Int32.toUInt32 31)).toInt32)) &&& 63)))) h) : SW sc m_J6_bitCount_0f7a4 d rc rs 0 [some (.int l0)] [] h P := by
  refine sw_iload_n dJ6_bitCount_0f7a4_0 rfl ?_
  refine sw_iload_n dJ6_bitCount_0f7a4_1 rfl ?_
  refine sw_iconst (v := 1) dJ6_bitCount_0f7a4_2 (by decide) ?_
  refine sw_iushr dJ6_bitCount_0f7a4_3 ?_
  refine sw_ldcI dJ6_bitCount_0f7a4_4 ct_J6_265 ?_
  refine sw_iand dJ6_bitCount_0f7a4_7 ?_
  refine sw_isub dJ6_bitCount_0f7a4_8 ?_
  refine sw_istore_n dJ6_bitCount_0f7a4_9 (by decide) rfl ?_
  show SW sc m_J6_bitCount_0f7a4 _ _ _ 10 [some (.int (l0 - (((l0.toUInt32 >>> ((1 : Int32).toUInt32 &&& Int32.toUInt32 31)).toInt32) &&& 1431655765)))] [] h P
  refine sw_iload_n dJ6_bitCount_0f7a4_10 rfl ?_
  refine sw_ldcI dJ6_bitCount_0f7a4_11 ct_J6_266 ?_
  refine sw_iand dJ6_bitCount_0f7a4_14 ?_
  refine sw_iload_n dJ6_bitCount_0f7a4_15 rfl ?_
  refine sw_iconst (v := 2) dJ6_bitCount_0f7a4_16 (by decide) ?_
  refine sw_iushr dJ6_bitCount_0f7a4_17 ?_
  refine sw_ldcI dJ6_bitCount_0f7a4_18 ct_J6_266 ?_
  refine sw_iand dJ6_bitCount_0f7a4_21 ?_
  refine sw_iadd dJ6_bitCount_0f7a4_22 ?_
  refine sw_istore_n dJ6_bitCount_0f7a4_23 (by decide) rfl ?_
  show SW sc m_J6_bitCount_0f7a4 _ _ _ 24 [some (.int (((l0 - (((l0.toUInt32 >>> ((1 : Int32).toUInt32 &&& Int32.toUInt32 31)).toInt32) &&& 1431655765)) &&& 858993459) + ((((l0 - (((l0.toUInt32 >>> ((1 : Int32).toUInt32 &&& Int32.toUInt32 31)).toInt32) &&& 1431655765)).toUInt32 >>> ((2 : Int32).toUInt32 &&& Int32.toUInt32 31)).toInt32) &&& 858993459)))] [] h P
  refine sw_iload_n dJ6_bitCount_0f7a4_24 rfl ?_
  refine sw_iload_n dJ6_bitCount_0f7a4_25 rfl ?_
  refine sw_iconst (v := 4) dJ6_bitCount_0f7a4_26 (by decide) ?_
  refine sw_iushr dJ6_bitCount_0f7a4_27 ?_
  refine sw_iadd dJ6_bitCount_0f7a4_28 ?_
  refine sw_ldcI dJ6_bitCount_0f7a4_29 ct_J6_267 ?_
  refine sw_iand dJ6_bitCount_0f7a4_32 ?_
  refine sw_istore_n dJ6_bitCount_0f7a4_33 (by decide) rfl ?_
  show SW sc m_J6_bitCount_0f7a4 _ _ _ 34 [some (.int (((((l0 - (((l0.toUInt32 >>> ((1 : Int32).toUInt32 &&& Int32.toUInt32 31)).toInt32) &&& 1431655765)) &&& 858993459) + ((((l0 - (((l0.toUInt32 >>> ((1 : Int32).toUInt32 &&& Int32.toUInt32 31)).toInt32) &&& 1431655765)).toUInt32 >>> ((2 : Int32).toUInt32 &&& Int32.toUInt32 31)).toInt32) &&& 858993459)) + (((((l0 - (((l0.toUInt32 >>> ((1 : Int32).toUInt32 &&& Int32.toUInt32 31)).toInt32) &&& 1431655765)) &&& 858993459) + ((((l0 - (((l0.toUInt32 >>> ((1 : Int32).toUInt32 &&& Int32.toUInt32 31)).toInt32) &&& 1431655765)).toUInt32 >>> ((2 : Int32).toUInt32 &&& Int32.toUInt32 31)).toInt32) &&& 858993459)).toUInt32 >>> ((4 : Int32).toUInt32 &&& Int32.toUInt32 31)).toInt32)) &&& 252645135))] [] h P
  refine sw_iload_n dJ6_bitCount_0f7a4_34 rfl ?_
  refine sw_iload_n dJ6_bitCount_0f7a4_35 rfl ?_
  refine sw_bipush (v := 8) dJ6_bitCount_0f7a4_36 (by decide) ?_
  refine sw_iushr dJ6_bitCount_0f7a4_38 ?_
  refine sw_iadd dJ6_bitCount_0f7a4_39 ?_
  refine sw_istore_n dJ6_bitCount_0f7a4_40 (by decide) rfl ?_
  show SW sc m_J6_bitCount_0f7a4 _ _ _ 41 [some (.int ((((((l0 - (((l0.toUInt32 >>> ((1 : Int32).toUInt32 &&& Int32.toUInt32 31)).toInt32) &&& 1431655765)) &&& 858993459) + ((((l0 - (((l0.toUInt32 >>> ((1 : Int32).toUInt32 &&& Int32.toUInt32 31)).toInt32) &&& 1431655765)).toUInt32 >>> ((2 : Int32).toUInt32 &&& Int32.toUInt32 31)).toInt32) &&& 858993459)) + (((((l0 - (((l0.toUInt32 >>> ((1 : Int32).toUInt32 &&& Int32.toUInt32 31)).toInt32) &&& 1431655765)) &&& 858993459) + ((((l0 - (((l0.toUInt32 >>> ((1 : Int32).toUInt32 &&& Int32.toUInt32 31)).toInt32) &&& 1431655765)).toUInt32 >>> ((2 : Int32).toUInt32 &&& Int32.toUInt32 31)).toInt32) &&& 858993459)).toUInt32 >>> ((4 : Int32).toUInt32 &&& Int32.toUInt32 31)).toInt32)) &&& 252645135) + (((((((l0 - (((l0.toUInt32 >>> ((1 : Int32).toUInt32 &&& Int32.toUInt32 31)).toInt32) &&& 1431655765)) &&& 858993459) + ((((l0 - (((l0.toUInt32 >>> ((1 : Int32).toUInt32 &&& Int32.toUInt32 31)).toInt32) &&& 1431655765)).toUInt32 >>> ((2 : Int32).toUInt32 &&& Int32.toUInt32 31)).toInt32) &&& 858993459)) + (((((l0 - (((l0.toUInt32 >>> ((1 : Int32).toUInt32 &&& Int32.toUInt32 31)).toInt32) &&& 1431655765)) &&& 858993459) + ((((l0 - (((l0.toUInt32 >>> ((1 : Int32).toUInt32 &&& Int32.toUInt32 31)).toInt32) &&& 1431655765)).toUInt32 >>> ((2 : Int32).toUInt32 &&& Int32.toUInt32 31)).toInt32) &&& 858993459)).toUInt32 >>> ((4 : Int32).toUInt32 &&& Int32.toUInt32 31)).toInt32)) &&& 252645135).toUInt32 >>> ((8 : Int32).toUInt32 &&& Int32.toUInt32 31)).toInt32)))] [] h P
  refine sw_iload_n dJ6_bitCount_0f7a4_41 rfl ?_
  refine sw_iload_n dJ6_bitCount_0f7a4_42 rfl ?_
  refine sw_bipush (v := 16) dJ6_bitCount_0f7a4_43 (by decide) ?_
  refine sw_iushr dJ6_bitCount_0f7a4_45 ?_
  refine sw_iadd dJ6_bitCount_0f7a4_46 ?_
  refine sw_istore_n dJ6_bitCount_0f7a4_47 (by decide) rfl ?_
  show SW sc m_J6_bitCount_0f7a4 _ _ _ 48 [some (.int (((((((l0 - (((l0.toUInt32 >>> ((1 : Int32).toUInt32 &&& Int32.toUInt32 31)).toInt32) &&& 1431655765)) &&& 858993459) + ((((l0 - (((l0.toUInt32 >>> ((1 : Int32).toUInt32 &&& Int32.toUInt32 31)).toInt32) &&& 1431655765)).toUInt32 >>> ((2 : Int32).toUInt32 &&& Int32.toUInt32 31)).toInt32) &&& 858993459)) + (((((l0 - (((l0.toUInt32 >>> ((1 : Int32).toUInt32 &&& Int32.toUInt32 31)).toInt32) &&& 1431655765)) &&& 858993459) + ((((l0 - (((l0.toUInt32 >>> ((1 : Int32).toUInt32 &&& Int32.toUInt32 31)).toInt32) &&& 1431655765)).toUInt32 >>> ((2 : Int32).toUInt32 &&& Int32.toUInt32 31)).toInt32) &&& 858993459)).toUInt32 >>> ((4 : Int32).toUInt32 &&& Int32.toUInt32 31)).toInt32)) &&& 252645135) + (((((((l0 - (((l0.toUInt32 >>> ((1 : Int32).toUInt32 &&& Int32.toUInt32 31)).toInt32) &&& 1431655765)) &&& 858993459) + ((((l0 - (((l0.toUInt32 >>> ((1 : Int32).toUInt32 &&& Int32.toUInt32 31)).toInt32) &&& 1431655765)).toUInt32 >>> ((2 : Int32).toUInt32 &&& Int32.toUInt32 31)).toInt32) &&& 858993459)) + (((((l0 - (((l0.toUInt32 >>> ((1 : Int32).toUInt32 &&& Int32.toUInt32 31)).toInt32) &&& 1431655765)) &&& 858993459) + ((((l0 - (((l0.toUInt32 >>> ((1 : Int32).toUInt32 &&& Int32.toUInt32 31)).toInt32) &&& 1431655765)).toUInt32 >>> ((2 : Int32).toUInt32 &&& Int32.toUInt32 31)).toInt32) &&& 858993459)).toUInt32 >>> ((4 : Int32).toUInt32 &&& Int32.toUInt32 31)).toInt32)) &&& 252645135).toUInt32 >>> ((8 : Int32).toUInt32 &&& Int32.toUInt32 31)).toInt32)) + ((((((((l0 - (((l0.toUInt32 >>> ((1 : Int32).toUInt32 &&& Int32.toUInt32 31)).toInt32) &&& 1431655765)) &&& 858993459) + ((((l0 - (((l0.toUInt32 >>> ((1 : Int32).toUInt32 &&& Int32.toUInt32 31)).toInt32) &&& 1431655765)).toUInt32 >>> ((2 : Int32).toUInt32 &&& Int32.toUInt32 31)).toInt32) &&& 858993459)) + (((((l0 - (((l0.toUInt32 >>> ((1 : Int32).toUInt32 &&& Int32.toUInt32 31)).toInt32) &&& 1431655765)) &&& 858993459) + ((((l0 - (((l0.toUInt32 >>> ((1 : Int32).toUInt32 &&& Int32.toUInt32 31)).toInt32) &&& 1431655765)).toUInt32 >>> ((2 : Int32).toUInt32 &&& Int32.toUInt32 31)).toInt32) &&& 858993459)).toUInt32 >>> ((4 : Int32).toUInt32 &&& Int32.toUInt32 31)).toInt32)) &&& 252645135) + (((((((l0 - (((l0.toUInt32 >>> ((1 : Int32).toUInt32 &&& Int32.toUInt32 31)).toInt32) &&& 1431655765)) &&& 858993459) + ((((l0 - (((l0.toUInt32 >>> ((1 : Int32).toUInt32 &&& Int32.toUInt32 31)).toInt32) &&& 1431655765)).toUInt32 >>> ((2 : Int32).toUInt32 &&& Int32.toUInt32 31)).toInt32) &&& 858993459)) + (((((l0 - (((l0.toUInt32 >>> ((1 : Int32).toUInt32 &&& Int32.toUInt32 31)).toInt32) &&& 1431655765)) &&& 858993459) + ((((l0 - (((l0.toUInt32 >>> ((1 : Int32).toUInt32 &&& Int32.toUInt32 31)).toInt32) &&& 1431655765)).toUInt32 >>> ((2 : Int32).toUInt32 &&& Int32.toUInt32 31)).toInt32) &&& 858993459)).toUInt32 >>> ((4 : Int32).toUInt32 &&& Int32.toUInt32 31)).toInt32)) &&& 252645135).toUInt32 >>> ((8 : Int32).toUInt32 &&& Int32.toUInt32 31)).toInt32)).toUInt32 >>> ((16 : Int32).toUInt32 &&& Int32.toUInt32 31)).toInt32)))] [] h P
  refine sw_iload_n dJ6_bitCount_0f7a4_48 rfl ?_
  refine sw_bipush (v := 63) dJ6_bitCount_0f7a4_49 (by decide) ?_
  refine sw_iand dJ6_bitCount_0f7a4_51 ?_
  exact sw_ret (v := (some (.int ((((((((l0 - (((l0.toUInt32 >>> ((1 : Int32).toUInt32 &&& Int32.toUInt32 31)).toInt32) &&& 1431655765)) &&& 858993459) + ((((l0 - (((l0.toUInt32 >>> ((1 : Int32).toUInt32 &&& Int32.toUInt32 31)).toInt32) &&& 1431655765)).toUInt32 >>> ((2 : Int32).toUInt32 &&& Int32.toUInt32 31)).toInt32) &&& 858993459)) + (((((l0 - (((l0.toUInt32 >>> ((1 : Int32).toUInt32 &&& Int32.toUInt32 31)).toInt32) &&& 1431655765)) &&& 858993459) + ((((l0 - (((l0.toUInt32 >>> ((1 : Int32).toUInt32 &&& Int32.toUInt32 31)).toInt32) &&& 1431655765)).toUInt32 >>> ((2 : Int32).toUInt32 &&& Int32.toUInt32 31)).toInt32) &&& 858993459)).toUInt32 >>> ((4 : Int32).toUInt32 &&& Int32.toUInt32 31)).toInt32)) &&& 252645135) + (((((((l0 - (((l0.toUInt32 >>> ((1 : Int32).toUInt32 &&& Int32.toUInt32 31)).toInt32) &&& 1431655765)) &&& 858993459) + ((((l0 - (((l0.toUInt32 >>> ((1 : Int32).toUInt32 &&& Int32.toUInt32 31)).toInt32) &&& 1431655765)).toUInt32 >>> ((2 : Int32).toUInt32 &&& Int32.toUInt32 31)).toInt32) &&& 858993459)) + (((((l0 - (((l0.toUInt32 >>> ((1 : Int32).toUInt32 &&& Int32.toUInt32 31)).toInt32) &&& 1431655765)) &&& 858993459) + ((((l0 - (((l0.toUInt32 >>> ((1 : Int32).toUInt32 &&& Int32.toUInt32 31)).toInt32) &&& 1431655765)).toUInt32 >>> ((2 : Int32).toUInt32 &&& Int32.toUInt32 31)).toInt32) &&& 858993459)).toUInt32 >>> ((4 : Int32).toUInt32 &&& Int32.toUInt32 31)).toInt32)) &&& 252645135).toUInt32 >>> ((8 : Int32).toUInt32 &&& Int32.toUInt32 31)).toInt32)) + ((((((((l0 - (((l0.toUInt32 >>> ((1 : Int32).toUInt32 &&& Int32.toUInt32 31)).toInt32) &&& 1431655765)) &&& 858993459) + ((((l0 - (((l0.toUInt32 >>> ((1 : Int32).toUInt32 &&& Int32.toUInt32 31)).toInt32) &&& 1431655765)).toUInt32 >>> ((2 : Int32).toUInt32 &&& Int32.toUInt32 31)).toInt32) &&& 858993459)) + (((((l0 - (((l0.toUInt32 >>> ((1 : Int32).toUInt32 &&& Int32.toUInt32 31)).toInt32) &&& 1431655765)) &&& 858993459) + ((((l0 - (((l0.toUInt32 >>> ((1 : Int32).toUInt32 &&& Int32.toUInt32 31)).toInt32) &&& 1431655765)).toUInt32 >>> ((2 : Int32).toUInt32 &&& Int32.toUInt32 31)).toInt32) &&& 858993459)).toUInt32 >>> ((4 : Int32).toUInt32 &&& Int32.toUInt32 31)).toInt32)) &&& 252645135) + (((((((l0 - (((l0.toUInt32 >>> ((1 : Int32).toUInt32 &&& Int32.toUInt32 31)).toInt32) &&& 1431655765)) &&& 858993459) + ((((l0 - (((l0.toUInt32 >>> ((1 : Int32).toUInt32 &&& Int32.toUInt32 31)).toInt32) &&& 1431655765)).toUInt32 >>> ((2 : Int32).toUInt32 &&& Int32.toUInt32 31)).toInt32) &&& 858993459)) + (((((l0 - (((l0.toUInt32 >>> ((1 : Int32).toUInt32 &&& Int32.toUInt32 31)).toInt32) &&& 1431655765)) &&& 858993459) + ((((l0 - (((l0.toUInt32 >>> ((1 : Int32).toUInt32 &&& Int32.toUInt32 31)).toInt32) &&& 1431655765)).toUInt32 >>> ((2 : Int32).toUInt32 &&& Int32.toUInt32 31)).toInt32) &&& 858993459)).toUInt32 >>> ((4 : Int32).toUInt32 &&& Int32.toUInt32 31)).toInt32)) &&& 252645135).toUInt32 >>> ((8 : Int32).toUInt32 &&& Int32.toUInt32 31)).toInt32)).toUInt32 >>> ((16 : Int32).toUInt32 &&& Int32.toUInt32 31)).toInt32)) &&& 63)))) dJ6_bitCount_0f7a4_52 rt_i hP
theorem b_J9_floorMod_7cf53_0 {l0 : Int32} {l1 : Int32} (hz3 : ¬ l1 = 0) (kt : 0 ≤ (l0 ^^^ l1) → SW sc m_J9_floorMod_7cf53 d rc rs 18 [none, none, some (.int (l0 - l0 / l1 * l1))] [] h P) (kf : ¬ (0 ≤ (l0 ^^^ l1)) → SW sc m_J9_floorMod_7cf53 d rc rs 10 [none, some (.int l1), some (.int (l0 - l0 / l1 * l1))] [] h P) : SW sc m_J9_floorMod_7cf53 d rc rs 0 [some (.int l0), some (.int l1), none] [] h P := by
  refine sw_iload_n dJ9_floorMod_7cf53_0 rfl ?_
  refine sw_iload_n dJ9_floorMod_7cf53_1 rfl ?_
  refine sw_irem dJ9_floorMod_7cf53_2 hz3 ?_
  refine sw_istore_n dJ9_floorMod_7cf53_3 (by decide) rfl ?_
  show SW sc m_J9_floorMod_7cf53 _ _ _ 4 [some (.int l0), some (.int l1), some (.int (l0 - l0 / l1 * l1))] [] h P
  refine sw_iload_n dJ9_floorMod_7cf53_4 rfl ?_
  refine sw_iload_n dJ9_floorMod_7cf53_5 rfl ?_
  refine sw_ixor dJ9_floorMod_7cf53_6 ?_
  exact sw_if_ge dJ9_floorMod_7cf53_7 (by decide) (fun q => (sw_fg [true, true, false] rfl (kt q))) (fun q => (sw_fg [true, false, false] rfl (kf q)))
theorem b_J9_floorMod_7cf53_10 {l1 : Int32} {l2 : Int32} (kt : l2 = 0 → SW sc m_J9_floorMod_7cf53 d rc rs 18 [none, none, some (.int l2)] [] h P) (kf : ¬ (l2 = 0) → SW sc m_J9_floorMod_7cf53 d rc rs 14 [none, some (.int l1), some (.int l2)] [] h P) : SW sc m_J9_floorMod_7cf53 d rc rs 10 [none, some (.int l1), some (.int l2)] [] h P := by
  refine sw_iload_n dJ9_floorMod_7cf53_10 rfl ?_
  exact sw_if_eq dJ9_floorMod_7cf53_11 (by decide) (fun q => (sw_fg [false, true, false] rfl (kt q))) (fun q => (kf q))
theorem b_J9_floorMod_7cf53_14 {l1 : Int32} {l2 : Int32} (hP : P (.inl (some (.int (l2 + l1)))) h) : SW sc m_J9_floorMod_7cf53 d rc rs 14 [none, some (.int l1), some (.int l2)] [] h P := by
  refine sw_iload_n dJ9_floorMod_7cf53_14 rfl ?_
  refine sw_iload_n dJ9_floorMod_7cf53_15 rfl ?_
  refine sw_iadd dJ9_floorMod_7cf53_16 ?_
  exact sw_ret (v := (some (.int (l2 + l1)))) dJ9_floorMod_7cf53_17 rt_i hP
theorem b_J9_floorMod_7cf53_18 {l2 : Int32} (hP : P (.inl (some (.int l2))) h) : SW sc m_J9_floorMod_7cf53 d rc rs 18 [none, none, some (.int l2)] [] h P := by
  refine sw_iload_n dJ9_floorMod_7cf53_18 rfl ?_
  exact sw_ret (v := (some (.int l2))) dJ9_floorMod_7cf53_19 rt_i hP
theorem b_J9_max_7cf53_0 {l0 : Int32} {l1 : Int32} (kt : l0 < l1 → SW sc m_J9_max_7cf53 d rc rs 9 [none, some (.int l1)] [] h P) (kf : ¬ (l0 < l1) → SW sc m_J9_max_7cf53 d rc rs 5 [some (.int l0), none] [] h P) : SW sc m_J9_max_7cf53 d rc rs 0 [some (.int l0), some (.int l1)] [] h P := by
  refine sw_iload_n dJ9_max_7cf53_0 rfl ?_
  refine sw_iload_n dJ9_max_7cf53_1 rfl ?_
  exact sw_icmp_lt dJ9_max_7cf53_2 (by decide) (fun q => (sw_fg [true, false] rfl (kt q))) (fun q => (sw_fg [false, true] rfl (kf q)))
theorem b_J9_max_7cf53_5 {l0 : Int32} (k : SW sc m_J9_max_7cf53 d rc rs 10 [none, none] [.int l0] h P) : SW sc m_J9_max_7cf53 d rc rs 5 [some (.int l0), none] [] h P := by
  refine sw_iload_n dJ9_max_7cf53_5 rfl ?_
  exact sw_goto dJ9_max_7cf53_6 (by decide) (sw_fg [true, false] rfl (k))
theorem b_J9_max_7cf53_9 {l1 : Int32} (k : SW sc m_J9_max_7cf53 d rc rs 10 [none, none] [.int l1] h P) : SW sc m_J9_max_7cf53 d rc rs 9 [none, some (.int l1)] [] h P := by
  refine sw_iload_n dJ9_max_7cf53_9 rfl ?_
  exact (sw_fg [false, true] rfl (k))
theorem b_J9_max_7cf53_10 {s0 : Int32} (hP : P (.inl (some (.int s0))) h) : SW sc m_J9_max_7cf53 d rc rs 10 [none, none] [.int s0] h P := by
  exact sw_ret (v := (some (.int s0))) dJ9_max_7cf53_10 rt_i hP
theorem b_J9_min_7cf53_0 {l0 : Int32} {l1 : Int32} (kt : l1 < l0 → SW sc m_J9_min_7cf53 d rc rs 9 [none, some (.int l1)] [] h P) (kf : ¬ (l1 < l0) → SW sc m_J9_min_7cf53 d rc rs 5 [some (.int l0), none] [] h P) : SW sc m_J9_min_7cf53 d rc rs 0 [some (.int l0), some (.int l1)] [] h P := by
  refine sw_iload_n dJ9_min_7cf53_0 rfl ?_
  refine sw_iload_n dJ9_min_7cf53_1 rfl ?_
  exact sw_icmp_gt dJ9_min_7cf53_2 (by decide) (fun q => (sw_fg [true, false] rfl (kt q))) (fun q => (sw_fg [false, true] rfl (kf q)))
theorem b_J9_min_7cf53_5 {l0 : Int32} (k : SW sc m_J9_min_7cf53 d rc rs 10 [none, none] [.int l0] h P) : SW sc m_J9_min_7cf53 d rc rs 5 [some (.int l0), none] [] h P := by
  refine sw_iload_n dJ9_min_7cf53_5 rfl ?_
  exact sw_goto dJ9_min_7cf53_6 (by decide) (sw_fg [true, false] rfl (k))
theorem b_J9_min_7cf53_9 {l1 : Int32} (k : SW sc m_J9_min_7cf53 d rc rs 10 [none, none] [.int l1] h P) : SW sc m_J9_min_7cf53 d rc rs 9 [none, some (.int l1)] [] h P := by
  refine sw_iload_n dJ9_min_7cf53_9 rfl ?_
  exact (sw_fg [false, true] rfl (k))
theorem b_J9_min_7cf53_10 {s0 : Int32} (hP : P (.inl (some (.int s0))) h) : SW sc m_J9_min_7cf53 d rc rs 10 [none, none] [.int s0] h P := by
  exact sw_ret (v := (some (.int s0))) dJ9_min_7cf53_10 rt_i hP
theorem b_J7_fill_53178_0 {r0 : Nat} {l1 : Int32} {vs4 : List Value} (hc4 : (h)[r0]? = some (100, vs4)) (k : SW sc m_J7_fill_53178 d rc rs 5 [some (.ref r0), some (.int l1), some (.int 0), some (.int (Int32.ofNat vs4.length))] [] h P) : SW sc m_J7_fill_53178 d rc rs 0 [some (.ref r0), some (.int l1), none, none] [] h P := by
  refine sw_iconst (v := 0) dJ7_fill_53178_0 (by decide) ?_
  refine sw_istore_n dJ7_fill_53178_1 (by decide) rfl ?_
  show SW sc m_J7_fill_53178 _ _ _ 2 [some (.ref r0), some (.int l1), some (.int 0), none] [] h P
  refine sw_aload_n dJ7_fill_53178_2 rfl ?_
  refine sw_alen dJ7_fill_53178_3 hc4 ?_
  refine sw_istore_n dJ7_fill_53178_4 (by decide) rfl ?_
  show SW sc m_J7_fill_53178 _ _ _ 5 [some (.ref r0), some (.int l1), some (.int 0), some (.int (Int32.ofNat vs4.length))] [] h P
  exact (k)
theorem b_J7_fill_53178_5 {r0 : Nat} {l1 : Int32} {l2 : Int32} {l3 : Int32} (kt : l3 ≤ l2 → SW sc m_J7_fill_53178 d rc rs 20 [none, none, none, none] [] h P) (kf : ¬ (l3 ≤ l2) → SW sc m_J7_fill_53178 d rc rs 10 [some (.ref r0), some (.int l1), some (.int l2), some (.int l3)] [] h P) : SW sc m_J7_fill_53178 d rc rs 5 [some (.ref r0), some (.int l1), some (.int l2), some (.int l3)] [] h P := by
  refine sw_iload_n dJ7_fill_53178_5 rfl ?_
  refine sw_iload_n dJ7_fill_53178_6 rfl ?_
  exact sw_icmp_ge dJ7_fill_53178_7 (by decide) (fun q => (sw_fg [true, true, true, true] rfl (kt q))) (fun q => (kf q))
theorem b_J7_fill_53178_10 {r0 : Nat} {l1 : Int32} {l2 : Int32} {l3 : Int32} {vs4 : List Value} (hc4 : (h)[r0]? = some (100, vs4)) (ho4 : ¬ l2 < 0) (hl4 : l2.toNatClampNeg < vs4.length) (k : SW sc m_J7_fill_53178 d rc rs 5 [some (.ref r0), some (.int l1), some (.int (l2 + 1)), some (.int l3)] [] ((h).set r0 (100, vs4.set l2.toNatClampNeg (.int l1))) P) : SW sc m_J7_fill_53178 d rc rs 10 [some (.ref r0), some (.int l1), some (.int l2), some (.int l3)] [] h P := by
  refine sw_aload_n dJ7_fill_53178_10 rfl ?_
  refine sw_iload_n dJ7_fill_53178_11 rfl ?_
  refine sw_iload_n dJ7_fill_53178_12 rfl ?_
  refine sw_iast dJ7_fill_53178_13 hc4 ho4 hl4 ?_
  refine sw_iinc (v := l2 + 1) dJ7_fill_53178_14 rfl rfl (by decide) rfl ?_
  show SW sc m_J7_fill_53178 _ _ _ 17 [some (.ref r0), some (.int l1), some (.int (l2 + 1)), some (.int l3)] [] ((h).set r0 (100, vs4.set l2.toNatClampNeg (.int l1))) P
  exact sw_goto dJ7_fill_53178_17 (by decide) (k)
theorem b_J7_fill_53178_20  (hP : P (.inl none) h) : SW sc m_J7_fill_53178 d rc rs 20 [none, none, none, none] [] h P := by
  exact sw_ret (v := none) dJ7_fill_53178_20 rt_v hP
end
