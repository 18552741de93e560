section
variable {sc : Option (List Int32)} {d rc rs : Nat} {h : ab_H} {P : ab_O → ab_H → Prop}
theorem b_X10_thrown_0 {r0 : Nat} {fs2 : List Value} {x2 : Int32} (hc2 : (h)[r0]? = some (10, fs2)) (hv2 : fs2[0]? = some (.int x2)) (hP : P (.inl (some (.int x2))) h) : SW sc m_X10_thrown d rc rs 0 [some (.ref r0)] [] h P := by
  refine sw_aload_n dX10_thrown_0 rfl ?_
  refine sw_getf dX10_thrown_1 lf_X10_1 hc2 hv2 ?_
  exact sw_ret (v := (some (.int x2))) dX10_thrown_4 rt_i hP
theorem b_X10_isIn_0 {l0 : Int32} {l1 : Int32} {l2 : Int32} (kt : l0 < l1 → SW sc m_X10_isIn d rc rs 14 [none, none, none] [] h P) (kf : ¬ (l0 < l1) → SW sc m_X10_isIn d rc rs 5 [some (.int l0), none, some (.int l2)] [] h P) : SW sc m_X10_isIn d rc rs 0 [some (.int l0), some (.int l1), some (.int l2)] [] h P := by
  refine sw_iload_n dX10_isIn_0 rfl ?_
  refine sw_iload_n dX10_isIn_1 rfl ?_
  exact sw_icmp_lt dX10_isIn_2 (by decide) (fun q => (sw_fg [true, true, true] rfl (kt q))) (fun q => (sw_fg [false, true, false] rfl (kf q)))
theorem b_X10_isIn_5 {l0 : Int32} {l2 : Int32} (kt : l2 < l0 → SW sc m_X10_isIn d rc rs 14 [none, none, none] [] h P) (kf : ¬ (l2 < l0) → SW sc m_X10_isIn d rc rs 10 [none, none, none] [] h P) : SW sc m_X10_isIn d rc rs 5 [some (.int l0), none, some (.int l2)] [] h P := by
  refine sw_iload_n dX10_isIn_5 rfl ?_
  refine sw_iload_n dX10_isIn_6 rfl ?_
  exact sw_icmp_gt dX10_isIn_7 (by decide) (fun q => (sw_fg [true, false, true] rfl (kt q))) (fun q => (sw_fg [true, false, true] rfl (kf q)))
theorem b_X10_isIn_10  (k : SW sc m_X10_isIn d rc rs 15 [none, none, none] [.int 1] h P) : SW sc m_X10_isIn d rc rs 10 [none, none, none] [] h P := by
  refine sw_iconst (v := 1) dX10_isIn_10 (by decide) ?_
  exact sw_goto dX10_isIn_11 (by decide) (k)
theorem b_X10_isIn_14  (k : SW sc m_X10_isIn d rc rs 15 [none, none, none] [.int 0] h P) : SW sc m_X10_isIn d rc rs 14 [none, none, none] [] h P := by
  refine sw_iconst (v := 0) dX10_isIn_14 (by decide) ?_
  exact (k)
theorem b_X10_isIn_15 {s0 : Int32} (hz1 : narrow .boolean (.int s0) = .int s0) (hP : P (.inl (some (.int s0))) h) : SW sc m_X10_isIn d rc rs 15 [none, none, none] [.int s0] h P := by
  exact sw_ret (v := (some (.int s0))) dX10_isIn_15 (rt_n hz1) hP
theorem b_X10_has_0 {l0 : Int32} {l1 : Int32} (kt : ¬ ((l0 >>> (l1 &&& 31)) &&& 1) = 1 → SW sc m_X10_has d rc rs 13 [none, none] [] h P) (kf : ((l0 >>> (l1 &&& 31)) &&& 1) = 1 → SW sc m_X10_has d rc rs 9 [none, none] [] h P) : SW sc m_X10_has d rc rs 0 [some (.int l0), some (.int l1)] [] h P := by
  refine sw_iload_n dX10_has_0 rfl ?_
  refine sw_iload_n dX10_has_1 rfl ?_
  refine sw_ishr dX10_has_2 ?_
  refine sw_iconst (v := 1) dX10_has_3 (by decide) ?_
  refine sw_iand dX10_has_4 ?_
  refine sw_iconst (v := 1) dX10_has_5 (by decide) ?_
  exact sw_icmp_ne dX10_has_6 (by decide) (fun q => (sw_fg [true, true] rfl (kt q))) (fun q => (sw_fg [true, true] rfl (kf q)))
theorem b_X10_has_9  (k : SW sc m_X10_has d rc rs 14 [none, none] [.int 1] h P) : SW sc m_X10_has d rc rs 9 [none, none] [] h P := by
  refine sw_iconst (v := 1) dX10_has_9 (by decide) ?_
  exact sw_goto dX10_has_10 (by decide) (k)
theorem b_X10_has_13  (k : SW sc m_X10_has d rc rs 14 [none, none] [.int 0] h P) : SW sc m_X10_has d rc rs 13 [none, none] [] h P := by
  refine sw_iconst (v := 0) dX10_has_13 (by decide) ?_
  exact (k)
theorem b_X10_has_14 {s0 : Int32} (hz1 : narrow .boolean (.int s0) = .int s0) (hP : P (.inl (some (.int s0))) h) : SW sc m_X10_has d rc rs 14 [none, none] [.int s0] h P := by
  exact sw_ret (v := (some (.int s0))) dX10_has_14 (rt_n hz1) hP
theorem b_X10_ones_0 {l0 : Int32} {v2 : Int32} {g2 : ab_H} (hm2 : MSE m_J6_bitCount_0f7a4 d [.int l0] h (some (.int v2)) g2) (hP : P (.inl (some (.int v2))) g2) : SW sc m_X10_ones (d + 1) rc rs 0 [some (.int l0)] [] h P := by
  refine sw_iload_n dX10_ones_0 rfl ?_
  refine sw_cS (M := m_X10_ones) dX10_ones_1 ls_X10_7 hm2 rfl rfl (Nat.le_of_ble_eq_true rfl) (fun _ _ => rfl) rfl ?_
  show SW sc m_X10_ones _ _ _ 4 [some (.int l0)] [.int v2] g2 P
  exact sw_ret (v := (some (.int v2))) dX10_ones_4 rt_i hP
theorem b_X10_fails_0 {r0 : Nat} {l1 : Int32} {l2 : Int32} (kt : l1 = 0 → SW sc m_X10_fails d rc rs 9 [some (.ref r0), none, some (.int l2)] [.ref r0] h P) (kf : ¬ (l1 = 0) → SW sc m_X10_fails d rc rs 5 [some (.ref r0), none, none] [.ref r0] h P) : SW sc m_X10_fails d rc rs 0 [some (.ref r0), some (.int l1), some (.int l2)] [] h P := by
  refine sw_aload_n dX10_fails_0 rfl ?_
  refine sw_iload_n dX10_fails_1 rfl ?_
  exact sw_if_eq dX10_fails_2 (by decide) (fun q => (sw_fg [false, true, false] rfl (kt q))) (fun q => (sw_fg [false, true, true] rfl (kf q)))
theorem b_X10_fails_5 {r0 : Nat} {q0 : Nat} (k : SW sc m_X10_fails d rc rs 18 [some (.ref r0), none, none] [.int 1, .ref q0] h P) : SW sc m_X10_fails d rc rs 5 [some (.ref r0), none, none] [.ref q0] h P := by
  refine sw_iconst (v := 1) dX10_fails_5 (by decide) ?_
  exact sw_goto dX10_fails_6 (by decide) (k)
theorem b_X10_fails_9 {r0 : Nat} {l2 : Int32} {q0 : Nat} (kt : l2 = 0 → SW sc m_X10_fails d rc rs 17 [some (.ref r0), none, none] [.ref q0] h P) (kf : ¬ (l2 = 0) → SW sc m_X10_fails d rc rs 13 [some (.ref r0), none, none] [.ref q0] h P) : SW sc m_X10_fails d rc rs 9 [some (.ref r0), none, some (.int l2)] [.ref q0] h P := by
  refine sw_iload_n dX10_fails_9 rfl ?_
  exact sw_if_eq dX10_fails_10 (by decide) (fun q => (sw_fg [false, false, true] rfl (kt q))) (fun q => (sw_fg [false, false, true] rfl (kf q)))
theorem b_X10_fails_13 {r0 : Nat} {q0 : Nat} (k : SW sc m_X10_fails d rc rs 18 [some (.ref r0), none, none] [.int 2, .ref q0] h P) : SW sc m_X10_fails d rc rs 13 [some (.ref r0), none, none] [.ref q0] h P := by
  refine sw_iconst (v := 2) dX10_fails_13 (by decide) ?_
  exact sw_goto dX10_fails_14 (by decide) (k)
theorem b_X10_fails_17 {r0 : Nat} {q0 : Nat} (k : SW sc m_X10_fails d rc rs 18 [some (.ref r0), none, none] [.int 0, .ref q0] h P) : SW sc m_X10_fails d rc rs 17 [some (.ref r0), none, none] [.ref q0] h P := by
  refine sw_iconst (v := 0) dX10_fails_17 (by decide) ?_
  exact (k)
theorem b_X10_fails_18 {r0 : Nat} {q0 : Nat} {s1 : Int32} {fs1 : List Value} {fs3 : List Value} {x3 : Int32} (hc1 : (h)[q0]? = some (10, fs1)) (hk1 : 0 < fs1.length) (hc3 : ((h).set q0 (10, fs1.set 0 (.int s1)))[r0]? = some (10, fs3)) (hv3 : fs3[0]? = some (.int x3)) (kt : x3 ≤ 0 → SW sc m_X10_fails d rc rs 32 [none, none, none] [] ((h).set q0 (10, fs1.set 0 (.int s1))) P) (kf : ¬ (x3 ≤ 0) → SW sc m_X10_fails d rc rs 28 [none, none, none] [] ((h).set q0 (10, fs1.set 0 (.int s1))) P) : SW sc m_X10_fails d rc rs 18 [some (.ref r0), none, none] [.int s1, .ref q0] h P := by
  refine sw_putf dX10_fails_18 lp_X10_1 hc1 hk1 (fun _ _ => ⟨rfl, rfl⟩) ?_
  refine sw_aload_n dX10_fails_21 rfl ?_
  refine sw_getf dX10_fails_22 lf_X10_1 hc3 hv3 ?_
  exact sw_if_le dX10_fails_25 (by decide) (fun q => (sw_fg [true, false, false] rfl (kt q))) (fun q => (sw_fg [true, false, false] rfl (kf q)))
theorem b_X10_fails_28  (k : SW sc m_X10_fails d rc rs 33 [none, none, none] [.int 1] h P) : SW sc m_X10_fails d rc rs 28 [none, none, none] [] h P := by
  refine sw_iconst (v := 1) dX10_fails_28 (by decide) ?_
  exact sw_goto dX10_fails_29 (by decide) (k)
theorem b_X10_fails_32  (k : SW sc m_X10_fails d rc rs 33 [none, none, none] [.int 0] h P) : SW sc m_X10_fails d rc rs 32 [none, none, none] [] h P := by
  refine sw_iconst (v := 0) dX10_fails_32 (by decide) ?_
  exact (k)
theorem b_X10_fails_33 {s0 : Int32} (hz1 : narrow .boolean (.int s0) = .int s0) (hP : P (.inl (some (.int s0))) h) : SW sc m_X10_fails d rc rs 33 [none, none, none] [.int s0] h P := by
  exact sw_ret (v := (some (.int s0))) dX10_fails_33 (rt_n hz1) hP
theorem b_X10_many_0 {r0 : Nat} {fs2 : List Value} {x2 : Int32} (hc2 : (h)[r0]? = some (10, fs2)) (hv2 : fs2[9]? = some (.int x2)) (kt : x2 = 0 → SW sc m_X10_many d rc rs 14 [some (.ref r0)] [] h P) (kf : ¬ (x2 = 0) → SW sc m_X10_many d rc rs 7 [some (.ref r0)] [] h P) : SW sc m_X10_many d rc rs 0 [some (.ref r0)] [] h P := by
  refine sw_aload_n dX10_many_0 rfl ?_
  refine sw_getf dX10_many_1 lf_X10_56 hc2 hv2 ?_
  exact sw_if_eq dX10_many_4 (by decide) (fun q => (kt q)) (fun q => (kf q))
theorem b_X10_many_7 {r0 : Nat} {fs2 : List Value} {x2 : Int32} (hc2 : (h)[r0]? = some (10, fs2)) (hv2 : fs2[10]? = some (.int x2)) (k : SW sc m_X10_many d rc rs 18 [none] [.int x2] h P) : SW sc m_X10_many d rc rs 7 [some (.ref r0)] [] h P := by
  refine sw_aload_n dX10_many_7 rfl ?_
  refine sw_getf dX10_many_8 lf_X10_60 hc2 hv2 ?_
  exact sw_goto dX10_many_11 (by decide) (sw_fg [true] rfl (k))
theorem b_X10_many_14 {r0 : Nat} {fs2 : List Value} {x2 : Int32} (hc2 : (h)[r0]? = some (10, fs2)) (hv2 : fs2[6]? = some (.int x2)) (k : SW sc m_X10_many d rc rs 18 [none] [.int x2] h P) : SW sc m_X10_many d rc rs 14 [some (.ref r0)] [] h P := by
  refine sw_aload_n dX10_many_14 rfl ?_
  refine sw_getf dX10_many_15 lf_X10_35 hc2 hv2 ?_
  exact (sw_fg [true] rfl (k))
theorem b_X10_many_18 {s0 : Int32} (hP : P (.inl (some (.int s0))) h) : SW sc m_X10_many d rc rs 18 [none] [.int s0] h P := by
  exact sw_ret (v := (some (.int s0))) dX10_many_18 rt_i hP
theorem b_X10_at_0 {r0 : Nat} {l1 : Int32} {fs2 : List Value} {x2 : Int32} (hc2 : (h)[r0]? = some (10, fs2)) (hv2 : fs2[9]? = some (.int x2)) (kt : x2 = 0 → SW sc m_X10_at d rc rs 16 [some (.ref r0), some (.int l1)] [] h P) (kf : ¬ (x2 = 0) → SW sc m_X10_at d rc rs 7 [some (.ref r0), some (.int l1)] [] h P) : SW sc m_X10_at d rc rs 0 [some (.ref r0), some (.int l1)] [] h P := by
  refine sw_aload_n dX10_at_0 rfl ?_
  refine sw_getf dX10_at_1 lf_X10_56 hc2 hv2 ?_
  exact sw_if_eq dX10_at_4 (by decide) (fun q => (kt q)) (fun q => (kf q))
theorem b_X10_at_7 {r0 : Nat} {l1 : Int32} {fs2 : List Value} {a2 : Nat} {vs4 : List Value} {x4 : Int32} (hc2 : (h)[r0]? = some (10, fs2)) (hv2 : fs2[2]? = some (.ref a2)) (hc4 : (h)[a2]? = some (100, vs4)) (ho4 : ¬ l1 < 0) (hi4 : vs4[l1.toNatClampNeg]? = some (.int x4)) (k : SW sc m_X10_at d rc rs 22 [none, none] [.int x4] h P) : SW sc m_X10_at d rc rs 7 [some (.ref r0), some (.int l1)] [] h P := by
  refine sw_aload_n dX10_at_7 rfl ?_
  refine sw_getf dX10_at_8 lf_X10_23 hc2 hv2 ?_
  refine sw_iload_n dX10_at_11 rfl ?_
  refine sw_iald dX10_at_12 hc4 ho4 hi4 ?_
  exact sw_goto dX10_at_13 (by decide) (sw_fg [true, true] rfl (k))
theorem b_X10_at_16 {r0 : Nat} {l1 : Int32} {fs2 : List Value} {a2 : Nat} {vs4 : List Value} {x4 : Int32} (hc2 : (h)[r0]? = some (10, fs2)) (hv2 : fs2[1]? = some (.ref a2)) (hc4 : (h)[a2]? = some (100, vs4)) (ho4 : ¬ l1 < 0) (hi4 : vs4[l1.toNatClampNeg]? = some (.int x4)) (k : SW sc m_X10_at d rc rs 22 [none, none] [.int x4] h P) : SW sc m_X10_at d rc rs 16 [some (.ref r0), some (.int l1)] [] h P := by
  refine sw_aload_n dX10_at_16 rfl ?_
  refine sw_getf dX10_at_17 lf_X10_19 hc2 hv2 ?_
  refine sw_iload_n dX10_at_20 rfl ?_
  refine sw_iald dX10_at_21 hc4 ho4 hi4 ?_
  exact (sw_fg [true, true] rfl (k))
theorem b_X10_at_22 {s0 : Int32} (hP : P (.inl (some (.int s0))) h) : SW sc m_X10_at d rc rs 22 [none, none] [.int s0] h P := by
  exact sw_ret (v := (some (.int s0))) dX10_at_22 rt_i hP
theorem b_X10_remembers_0 {r0 : Nat} {fs2 : List Value} {x2 : Int32} (hc2 : (h)[r0]? = some (10, fs2)) (hv2 : fs2[7]? = some (.int x2)) (kt : ¬ x2 = 8 → SW sc m_X10_remembers d rc rs 50 [some (.ref r0), none] [] h P) (kf : x2 = 8 → SW sc m_X10_remembers d rc rs 9 [some (.ref r0), none] [] h P) : SW sc m_X10_remembers d rc rs 0 [some (.ref r0), none] [] h P := by
  refine sw_aload_n dX10_remembers_0 rfl ?_
  refine sw_getf dX10_remembers_1 lf_X10_63 hc2 hv2 ?_
  refine sw_bipush (v := 8) dX10_remembers_4 (by decide) ?_
  exact sw_icmp_ne dX10_remembers_6 (by decide) (fun q => (kt q)) (fun q => (kf q))
theorem b_X10_remembers_9 {r0 : Nat} (k : SW sc m_X10_remembers d rc rs 12 [some (.ref r0), some (.int 20)] [] h P) : SW sc m_X10_remembers d rc rs 9 [some (.ref r0), none] [] h P := by
  refine sw_bipush (v := 20) dX10_remembers_9 (by decide) ?_
  refine sw_istore_n dX10_remembers_11 (by decide) rfl ?_
  show SW sc m_X10_remembers _ _ _ 12 [some (.ref r0), some (.int 20)] [] h P
  exact (k)
theorem b_X10_remembers_12 {r0 : Nat} {l1 : Int32} (kt : 160 ≤ l1 → SW sc m_X10_remembers d rc rs 40 [some (.ref r0), none] [] h P) (kf : ¬ (160 ≤ l1) → SW sc m_X10_remembers d rc rs 19 [some (.ref r0), some (.int l1)] [] h P) : SW sc m_X10_remembers d rc rs 12 [some (.ref r0), some (.int l1)] [] h P := by
  refine sw_iload_n dX10_remembers_12 rfl ?_
  refine sw_sipush (v := 160) dX10_remembers_13 (by decide) ?_
  exact sw_icmp_ge dX10_remembers_16 (by decide) (fun q => (sw_fg [false, true] rfl (kt q))) (fun q => (kf q))
theorem b_X10_remembers_19 {r0 : Nat} {l1 : Int32} {fs2 : List Value} {a2 : Nat} {fs7 : List Value} {a7 : Nat} {vs9 : List Value} {x9 : Int32} {vs10 : List Value} (hc2 : (h)[r0]? = some (10, fs2)) (hv2 : fs2[3]? = some (.ref a2)) (hc7 : (h)[r0]? = some (10, fs7)) (hv7 : fs7[3]? = some (.ref a7)) (hc9 : (h)[a7]? = some (100, vs9)) (ho9 : ¬ l1 < 0) (hi9 : vs9[l1.toNatClampNeg]? = some (.int x9)) (hc10 : (h)[a2]? = some (100, vs10)) (ho10 : ¬ (l1 - 20) < 0) (hl10 : (l1 - 20).toNatClampNeg < vs10.length) (k : SW sc m_X10_remembers d rc rs 12 [some (.ref r0), some (.int (l1 + 1))] [] ((h).set a2 (100, vs10.set (l1 - 20).toNatClampNeg (.int x9))) P) : SW sc m_X10_remembers d rc rs 19 [some (.ref r0), some (.int l1)] [] h P := by
  refine sw_aload_n dX10_remembers_19 rfl ?_
  refine sw_getf dX10_remembers_20 lf_X10_26 hc2 hv2 ?_
  refine sw_iload_n dX10_remembers_23 rfl ?_
  refine sw_bipush (v := 20) dX10_remembers_24 (by decide) ?_
  refine sw_isub dX10_remembers_26 ?_
  refine sw_aload_n dX10_remembers_27 rfl ?_
  refine sw_getf dX10_remembers_28 lf_X10_26 hc7 hv7 ?_
  refine sw_iload_n dX10_remembers_31 rfl ?_
  refine sw_iald dX10_remembers_32 hc9 ho9 hi9 ?_
  refine sw_iast dX10_remembers_33 hc10 ho10 hl10 ?_
  refine sw_iinc (v := l1 + 1) dX10_remembers_34 rfl rfl (by decide) rfl ?_
  show SW sc m_X10_remembers _ _ _ 37 [some (.ref r0), some (.int (l1 + 1))] [] ((h).set a2 (100, vs10.set (l1 - 20).toNatClampNeg (.int x9))) P
  exact sw_goto dX10_remembers_37 (by decide) (k)
theorem b_X10_remembers_40 {r0 : Nat} {fs3 : List Value} {x3 : Int32} {fs6 : List Value} (hc3 : (h)[r0]? = some (10, fs3)) (hv3 : fs3[7]? = some (.int x3)) (hc6 : (h)[r0]? = some (10, fs6)) (hk6 : 7 < fs6.length) (k : SW sc m_X10_remembers d rc rs 50 [some (.ref r0), none] [] ((h).set r0 (10, fs6.set 7 (.int (x3 - 1)))) P) : SW sc m_X10_remembers d rc rs 40 [some (.ref r0), none] [] h P := by
  refine sw_aload_n dX10_remembers_40 rfl ?_
  refine sw_dup dX10_remembers_41 (fun _ _ => rfl) ?_
  refine sw_getf dX10_remembers_42 lf_X10_63 hc3 hv3 ?_
  refine sw_iconst (v := 1) dX10_remembers_45 (by decide) ?_
  refine sw_isub dX10_remembers_46 ?_
  refine sw_putf dX10_remembers_47 lp_X10_63 hc6 hk6 (fun _ _ => ⟨rfl, rfl⟩) ?_
  exact (k)
theorem b_X10_remembers_50 {r0 : Nat} (k : SW sc m_X10_remembers d rc rs 52 [some (.ref r0), some (.int 0)] [] h P) : SW sc m_X10_remembers d rc rs 50 [some (.ref r0), none] [] h P := by
  refine sw_iconst (v := 0) dX10_remembers_50 (by decide) ?_
  refine sw_istore_n dX10_remembers_51 (by decide) rfl ?_
  show SW sc m_X10_remembers _ _ _ 52 [some (.ref r0), some (.int 0)] [] h P
  exact (k)
theorem b_X10_remembers_52 {r0 : Nat} {l1 : Int32} (kt : 20 ≤ l1 → SW sc m_X10_remembers d rc rs 84 [some (.ref r0), none] [] h P) (kf : ¬ (20 ≤ l1) → SW sc m_X10_remembers d rc rs 58 [some (.ref r0), some (.int l1)] [] h P) : SW sc m_X10_remembers d rc rs 52 [some (.ref r0), some (.int l1)] [] h P := by
  refine sw_iload_n dX10_remembers_52 rfl ?_
  refine sw_bipush (v := 20) dX10_remembers_53 (by decide) ?_
  exact sw_icmp_ge dX10_remembers_55 (by decide) (fun q => (sw_fg [false, true] rfl (kt q))) (fun q => (kf q))
theorem b_X10_remembers_58 {r0 : Nat} {l1 : Int32} {fs2 : List Value} {a2 : Nat} {fs5 : List Value} {x5 : Int32} {fs10 : List Value} {a10 : Nat} {vs12 : List Value} {x12 : Int32} {vs13 : List Value} (hc2 : (h)[r0]? = some (10, fs2)) (hv2 : fs2[3]? = some (.ref a2)) (hc5 : (h)[r0]? = some (10, fs5)) (hv5 : fs5[7]? = some (.int x5)) (hc10 : (h)[r0]? = some (10, fs10)) (hv10 : fs10[1]? = some (.ref a10)) (hc12 : (h)[a10]? = some (100, vs12)) (ho12 : ¬ l1 < 0) (hi12 : vs12[l1.toNatClampNeg]? = some (.int x12)) (hc13 : (h)[a2]? = some (100, vs13)) (ho13 : ¬ ((20 * x5) + l1) < 0) (hl13 : ((20 * x5) + l1).toNatClampNeg < vs13.length) (k : SW sc m_X10_remembers d rc rs 52 [some (.ref r0), some (.int (l1 + 1))] [] ((h).set a2 (100, vs13.set ((20 * x5) + l1).toNatClampNeg (.int x12))) P) : SW sc m_X10_remembers d rc rs 58 [some (.ref r0), some (.int l1)] [] h P := by
  refine sw_aload_n dX10_remembers_58 rfl ?_
  refine sw_getf dX10_remembers_59 lf_X10_26 hc2 hv2 ?_
  refine sw_bipush (v := 20) dX10_remembers_62 (by decide) ?_
  refine sw_aload_n dX10_remembers_64 rfl ?_
  refine sw_getf dX10_remembers_65 lf_X10_63 hc5 hv5 ?_
  refine sw_imul dX10_remembers_68 ?_
  refine sw_iload_n dX10_remembers_69 rfl ?_
  refine sw_iadd dX10_remembers_70 ?_
  refine sw_aload_n dX10_remembers_71 rfl ?_
  refine sw_getf dX10_remembers_72 lf_X10_19 hc10 hv10 ?_
  refine sw_iload_n dX10_remembers_75 rfl ?_
  refine sw_iald dX10_remembers_76 hc12 ho12 hi12 ?_
  refine sw_iast dX10_remembers_77 hc13 ho13 hl13 ?_
  refine sw_iinc (v := l1 + 1) dX10_remembers_78 rfl rfl (by decide) rfl ?_
  show SW sc m_X10_remembers _ _ _ 81 [some (.ref r0), some (.int (l1 + 1))] [] ((h).set a2 (100, vs13.set ((20 * x5) + l1).toNatClampNeg (.int x12))) P
  exact sw_goto dX10_remembers_81 (by decide) (k)
theorem b_X10_remembers_84 {r0 : Nat} {fs3 : List Value} {x3 : Int32} {fs6 : List Value} (hc3 : (h)[r0]? = some (10, fs3)) (hv3 : fs3[7]? = some (.int x3)) (hc6 : (h)[r0]? = some (10, fs6)) (hk6 : 7 < fs6.length) (hP : P (.inl none) ((h).set r0 (10, fs6.set 7 (.int (x3 + 1))))) : SW sc m_X10_remembers d rc rs 84 [some (.ref r0), none] [] h P := by
  refine sw_aload_n dX10_remembers_84 rfl ?_
  refine sw_dup dX10_remembers_85 (fun _ _ => rfl) ?_
  refine sw_getf dX10_remembers_86 lf_X10_63 hc3 hv3 ?_
  refine sw_iconst (v := 1) dX10_remembers_89 (by decide) ?_
  refine sw_iadd dX10_remembers_90 ?_
  refine sw_putf dX10_remembers_91 lp_X10_63 hc6 hk6 (fun _ _ => ⟨rfl, rfl⟩) ?_
  exact sw_ret (v := none) dX10_remembers_94 rt_v hP
theorem b_X10_undo_0 {r0 : Nat} {fs3 : List Value} {fs5 : List Value} {x5 : Int32} (hc3 : (h)[r0]? = some (10, fs3)) (hk3 : 0 < fs3.length) (hc5 : ((h).set r0 (10, fs3.set 0 (.int 0)))[r0]? = some (10, fs5)) (hv5 : fs5[7]? = some (.int x5)) (kt : ¬ x5 = 0 → SW sc m_X10_undo d rc rs 14 [some (.ref r0), none] [] ((h).set r0 (10, fs3.set 0 (.int 0))) P) (kf : x5 = 0 → SW sc m_X10_undo d rc rs 12 [none, none] [] ((h).set r0 (10, fs3.set 0 (.int 0))) P) : SW sc m_X10_undo d rc rs 0 [some (.ref r0), none] [] h P := by
  refine sw_aload_n dX10_undo_0 rfl ?_
  refine sw_iconst (v := 0) dX10_undo_1 (by decide) ?_
  refine sw_putf dX10_undo_2 lp_X10_1 hc3 hk3 (fun _ _ => ⟨rfl, rfl⟩) ?_
  refine sw_aload_n dX10_undo_5 rfl ?_
  refine sw_getf dX10_undo_6 lf_X10_63 hc5 hv5 ?_
  exact sw_if_ne dX10_undo_9 (by decide) (fun q => (kt q)) (fun q => (sw_fg [true, false] rfl (kf q)))
theorem b_X10_undo_12  (hP : P (.inl (some (.int (-1)))) h) : SW sc m_X10_undo d rc rs 12 [none, none] [] h P := by
  refine sw_iconst (v := (-1)) dX10_undo_12 (by decide) ?_
  exact sw_ret (v := (some (.int (-1)))) dX10_undo_13 rt_i hP
theorem b_X10_undo_14 {r0 : Nat} {fs3 : List Value} {x3 : Int32} {fs6 : List Value} (hc3 : (h)[r0]? = some (10, fs3)) (hv3 : fs3[7]? = some (.int x3)) (hc6 : (h)[r0]? = some (10, fs6)) (hk6 : 7 < fs6.length) (k : SW sc m_X10_undo d rc rs 26 [some (.ref r0), some (.int 0)] [] ((h).set r0 (10, fs6.set 7 (.int (x3 - 1)))) P) : SW sc m_X10_undo d rc rs 14 [some (.ref r0), none] [] h P := by
  refine sw_aload_n dX10_undo_14 rfl ?_
  refine sw_dup dX10_undo_15 (fun _ _ => rfl) ?_
  refine sw_getf dX10_undo_16 lf_X10_63 hc3 hv3 ?_
  refine sw_iconst (v := 1) dX10_undo_19 (by decide) ?_
  refine sw_isub dX10_undo_20 ?_
  refine sw_putf dX10_undo_21 lp_X10_63 hc6 hk6 (fun _ _ => ⟨rfl, rfl⟩) ?_
  refine sw_iconst (v := 0) dX10_undo_24 (by decide) ?_
  refine sw_istore_n dX10_undo_25 (by decide) rfl ?_
  show SW sc m_X10_undo _ _ _ 26 [some (.ref r0), some (.int 0)] [] ((h).set r0 (10, fs6.set 7 (.int (x3 - 1)))) P
  exact (k)
theorem b_X10_undo_26 {r0 : Nat} {l1 : Int32} (kt : 20 ≤ l1 → SW sc m_X10_undo d rc rs 58 [some (.ref r0), none] [] h P) (kf : ¬ (20 ≤ l1) → SW sc m_X10_undo d rc rs 32 [some (.ref r0), some (.int l1)] [] h P) : SW sc m_X10_undo d rc rs 26 [some (.ref r0), some (.int l1)] [] h P := by
  refine sw_iload_n dX10_undo_26 rfl ?_
  refine sw_bipush (v := 20) dX10_undo_27 (by decide) ?_
  exact sw_icmp_ge dX10_undo_29 (by decide) (fun q => (sw_fg [false, true] rfl (kt q))) (fun q => (kf q))
theorem b_X10_undo_32 {r0 : Nat} {l1 : Int32} {fs2 : List Value} {a2 : Nat} {fs5 : List Value} {a5 : Nat} {fs8 : List Value} {x8 : Int32} {vs12 : List Value} {x12 : Int32} {vs13 : List Value} (hc2 : (h)[r0]? = some (10, fs2)) (hv2 : fs2[1]? = some (.ref a2)) (hc5 : (h)[r0]? = some (10, fs5)) (hv5 : fs5[3]? = some (.ref a5)) (hc8 : (h)[r0]? = some (10, fs8)) (hv8 : fs8[7]? = some (.int x8)) (hc12 : (h)[a5]? = some (100, vs12)) (ho12 : ¬ ((20 * x8) + l1) < 0) (hi12 : vs12[((20 * x8) + l1).toNatClampNeg]? = some (.int x12)) (hc13 : (h)[a2]? = some (100, vs13)) (ho13 : ¬ l1 < 0) (hl13 : l1.toNatClampNeg < vs13.length) (k : SW sc m_X10_undo d rc rs 26 [some (.ref r0), some (.int (l1 + 1))] [] ((h).set a2 (100, vs13.set l1.toNatClampNeg (.int x12))) P) : SW sc m_X10_undo d rc rs 32 [some (.ref r0), some (.int l1)] [] h P := by
  refine sw_aload_n dX10_undo_32 rfl ?_
  refine sw_getf dX10_undo_33 lf_X10_19 hc2 hv2 ?_
  refine sw_iload_n dX10_undo_36 rfl ?_
  refine sw_aload_n dX10_undo_37 rfl ?_
  refine sw_getf dX10_undo_38 lf_X10_26 hc5 hv5 ?_
  refine sw_bipush (v := 20) dX10_undo_41 (by decide) ?_
  refine sw_aload_n dX10_undo_43 rfl ?_
  refine sw_getf dX10_undo_44 lf_X10_63 hc8 hv8 ?_
  refine sw_imul dX10_undo_47 ?_
  refine sw_iload_n dX10_undo_48 rfl ?_
  refine sw_iadd dX10_undo_49 ?_
  refine sw_iald dX10_undo_50 hc12 ho12 hi12 ?_
  refine sw_iast dX10_undo_51 hc13 ho13 hl13 ?_
  refine sw_iinc (v := l1 + 1) dX10_undo_52 rfl rfl (by decide) rfl ?_
  show SW sc m_X10_undo _ _ _ 55 [some (.ref r0), some (.int (l1 + 1))] [] ((h).set a2 (100, vs13.set l1.toNatClampNeg (.int x12))) P
  exact sw_goto dX10_undo_55 (by decide) (k)
theorem b_X10_undo_58 {r0 : Nat} {fs2 : List Value} {x2 : Int32} (hc2 : (h)[r0]? = some (10, fs2)) (hv2 : fs2[7]? = some (.int x2)) (hP : P (.inl (some (.int x2))) h) : SW sc m_X10_undo d rc rs 58 [some (.ref r0), none] [] h P := by
  refine sw_aload_n dX10_undo_58 rfl ?_
  refine sw_getf dX10_undo_59 lf_X10_63 hc2 hv2 ?_
  exact sw_ret (v := (some (.int x2))) dX10_undo_62 rt_i hP
theorem b_X10_joins_0 {r0 : Nat} {l1 : Int32} {l2 : Int32} {vs4 : List Value} {x4 : Int32} {vs9 : List Value} {vs13 : List Value} {x13 : Int32} {vs18 : List Value} (hc4 : (h)[r0]? = some (100, vs4)) (ho4 : ¬ l1 < 0) (hi4 : vs4[l1.toNatClampNeg]? = some (.int x4)) (hc9 : (h)[r0]? = some (100, vs9)) (ho9 : ¬ l1 < 0) (hl9 : l1.toNatClampNeg < vs9.length) (hc13 : ((h).set r0 (100, vs9.set l1.toNatClampNeg (.int (x4 ||| (1 <<< (l2 &&& 31))))))[r0]? = some (100, vs13)) (ho13 : ¬ l2 < 0) (hi13 : vs13[l2.toNatClampNeg]? = some (.int x13)) (hc18 : ((h).set r0 (100, vs9.set l1.toNatClampNeg (.int (x4 ||| (1 <<< (l2 &&& 31))))))[r0]? = some (100, vs18)) (ho18 : ¬ l2 < 0) (hl18 : l2.toNatClampNeg < vs18.length) (hP : P (.inl none) (((h).set r0 (100, vs9.set l1.toNatClampNeg (.int (x4 ||| (1 <<< (l2 &&& 31)))))).set r0 (100, vs18.set l2.toNatClampNeg (.int (x13 ||| (1 <<< (l1 &&& 31))))))) : SW sc m_X10_joins d rc rs 0 [some (.ref r0), some (.int l1), some (.int l2)] [] h P := by
  refine sw_aload_n dX10_joins_0 rfl ?_
  refine sw_iload_n dX10_joins_1 rfl ?_
  refine sw_dup2 dX10_joins_2 (fun _ _ => rfl) (fun _ _ => rfl) ?_
  refine sw_iald dX10_joins_3 hc4 ho4 hi4 ?_
  refine sw_iconst (v := 1) dX10_joins_4 (by decide) ?_
  refine sw_iload_n dX10_joins_5 rfl ?_
  refine sw_ishl dX10_joins_6 ?_
  refine sw_ior dX10_joins_7 ?_
  refine sw_iast dX10_joins_8 hc9 ho9 hl9 ?_
  refine sw_aload_n dX10_joins_9 rfl ?_
  refine sw_iload_n dX10_joins_10 rfl ?_
  refine sw_dup2 dX10_joins_11 (fun _ _ => rfl) (fun _ _ => rfl) ?_
  refine sw_iald dX10_joins_12 hc13 ho13 hi13 ?_
  refine sw_iconst (v := 1) dX10_joins_13 (by decide) ?_
  refine sw_iload_n dX10_joins_14 rfl ?_
  refine sw_ishl dX10_joins_15 ?_
  refine sw_ior dX10_joins_16 ?_
  refine sw_iast dX10_joins_17 hc18 ho18 hl18 ?_
  exact sw_ret (v := none) dX10_joins_18 rt_v hP
theorem b_X10_parts_0 {r0 : Nat} {l1 : Int32} {l2 : Int32} {vs4 : List Value} {x4 : Int32} {vs11 : List Value} {vs15 : List Value} {x15 : Int32} {vs22 : List Value} (hc4 : (h)[r0]? = some (100, vs4)) (ho4 : ¬ l1 < 0) (hi4 : vs4[l1.toNatClampNeg]? = some (.int x4)) (hc11 : (h)[r0]? = some (100, vs11)) (ho11 : ¬ l1 < 0) (hl11 : l1.toNatClampNeg < vs11.length) (hc15 : ((h).set r0 (100, vs11.set l1.toNatClampNeg (.int (x4 &&& ((1 <<< (l2 &&& 31)) ^^^ (-1))))))[r0]? = some (100, vs15)) (ho15 : ¬ l2 < 0) (hi15 : vs15[l2.toNatClampNeg]? = some (.int x15)) (hc22 : ((h).set r0 (100, vs11.set l1.toNatClampNeg (.int (x4 &&& ((1 <<< (l2 &&& 31)) ^^^ (-1))))))[r0]? = some (100, vs22)) (ho22 : ¬ l2 < 0) (hl22 : l2.toNatClampNeg < vs22.length) (hP : P (.inl none) (((h).set r0 (100, vs11.set l1.toNatClampNeg (.int (x4 &&& ((1 <<< (l2 &&& 31)) ^^^ (-1)))))).set r0 (100, vs22.set l2.toNatClampNeg (.int (x15 &&& ((1 <<< (l1 &&& 31)) ^^^ (-1))))))) : SW sc m_X10_parts d rc rs 0 [some (.ref r0), some (.int l1), some (.int l2)] [] h P := by
  refine sw_aload_n dX10_parts_0 rfl ?_
  refine sw_iload_n dX10_parts_1 rfl ?_
  refine sw_dup2 dX10_parts_2 (fun _ _ => rfl) (fun _ _ => rfl) ?_
  refine sw_iald dX10_parts_3 hc4 ho4 hi4 ?_
  refine sw_iconst (v := 1) dX10_parts_4 (by decide) ?_
  refine sw_iload_n dX10_parts_5 rfl ?_
  refine sw_ishl dX10_parts_6 ?_
  refine sw_iconst (v := (-1)) dX10_parts_7 (by decide) ?_
  refine sw_ixor dX10_parts_8 ?_
  refine sw_iand dX10_parts_9 ?_
  refine sw_iast dX10_parts_10 hc11 ho11 hl11 ?_
  refine sw_aload_n dX10_parts_11 rfl ?_
  refine sw_iload_n dX10_parts_12 rfl ?_
  refine sw_dup2 dX10_parts_13 (fun _ _ => rfl) (fun _ _ => rfl) ?_
  refine sw_iald dX10_parts_14 hc15 ho15 hi15 ?_
  refine sw_iconst (v := 1) dX10_parts_15 (by decide) ?_
  refine sw_iload_n dX10_parts_16 rfl ?_
  refine sw_ishl dX10_parts_17 ?_
  refine sw_iconst (v := (-1)) dX10_parts_18 (by decide) ?_
  refine sw_ixor dX10_parts_19 ?_
  refine sw_iand dX10_parts_20 ?_
  refine sw_iast dX10_parts_21 hc22 ho22 hl22 ?_
  exact sw_ret (v := none) dX10_parts_22 rt_v hP
theorem b_X10_reach_0 {r0 : Nat} {l1 : Int32} {l2 : Int32} (k : SW sc m_X10_reach d rc rs 7 [some (.ref r0), none, some (.int l2), some (.int (1 <<< (l1 &&& 31))), some (.int 0), none] [] h P) : SW sc m_X10_reach d rc rs 0 [some (.ref r0), some (.int l1), some (.int l2), none, none, none] [] h P := by
  refine sw_iconst (v := 1) dX10_reach_0 (by decide) ?_
  refine sw_iload_n dX10_reach_1 rfl ?_
  refine sw_ishl dX10_reach_2 ?_
  refine sw_istore_n dX10_reach_3 (by decide) rfl ?_
  show SW sc m_X10_reach _ _ _ 4 [some (.ref r0), some (.int l1), some (.int l2), some (.int (1 <<< (l1 &&& 31))), none, none] [] h P
  refine sw_iconst (v := 0) dX10_reach_4 (by decide) ?_
  refine sw_istore dX10_reach_5 (by decide) rfl ?_
  show SW sc m_X10_reach _ _ _ 7 [some (.ref r0), some (.int l1), some (.int l2), some (.int (1 <<< (l1 &&& 31))), some (.int 0), none] [] h P
  exact (sw_fg [false, true, false, false, false, false] rfl (k))
theorem b_X10_reach_7 {r0 : Nat} {l2 : Int32} {l3 : Int32} {l4 : Int32} (kt : l3 = l4 → SW sc m_X10_reach d rc rs 71 [none, none, none, some (.int l3), none, none] [] h P) (kf : ¬ (l3 = l4) → SW sc m_X10_reach d rc rs 13 [some (.ref r0), none, some (.int l2), some (.int l3), none, none] [] h P) : SW sc m_X10_reach d rc rs 7 [some (.ref r0), none, some (.int l2), some (.int l3), some (.int l4), none] [] h P := by
  refine sw_iload_n dX10_reach_7 rfl ?_
  refine sw_iload dX10_reach_8 rfl ?_
  exact sw_icmp_eq dX10_reach_10 (by decide) (fun q => (sw_fg [true, false, true, false, true, false] rfl (kt q))) (fun q => (sw_fg [false, false, false, false, true, false] rfl (kf q)))
theorem b_X10_reach_13 {r0 : Nat} {l2 : Int32} {l3 : Int32} (k : SW sc m_X10_reach d rc rs 19 [some (.ref r0), none, some (.int l2), some (.int l3), some (.int l3), some (.int 0)] [] h P) : SW sc m_X10_reach d rc rs 13 [some (.ref r0), none, some (.int l2), some (.int l3), none, none] [] h P := by
  refine sw_iload_n dX10_reach_13 rfl ?_
  refine sw_istore dX10_reach_14 (by decide) rfl ?_
  show SW sc m_X10_reach _ _ _ 16 [some (.ref r0), none, some (.int l2), some (.int l3), some (.int l3), none] [] h P
  refine sw_iconst (v := 0) dX10_reach_16 (by decide) ?_
  refine sw_istore dX10_reach_17 (by decide) rfl ?_
  show SW sc m_X10_reach _ _ _ 19 [some (.ref r0), none, some (.int l2), some (.int l3), some (.int l3), some (.int 0)] [] h P
  exact (k)
theorem b_X10_reach_19 {r0 : Nat} {l2 : Int32} {l3 : Int32} {l4 : Int32} {l5 : Int32} {v3 : Int32} {g3 : ab_H} {fs3 : List Value} (hr3 : (h)[r0]? = some (10, fs3)) (hm3 : MSE m_X10_many d [.ref r0] h (some (.int v3)) g3) (kt : v3 ≤ l5 → SW sc m_X10_reach (d + 1) rc rs 68 [some (.ref r0), none, some (.int l2), some (.int l3), some (.int l4), none] [] g3 P) (kf : ¬ (v3 ≤ l5) → SW sc m_X10_reach (d + 1) rc rs 28 [some (.ref r0), none, some (.int l2), some (.int l3), some (.int l4), some (.int l5)] [] g3 P) : SW sc m_X10_reach (d + 1) rc rs 19 [some (.ref r0), none, some (.int l2), some (.int l3), some (.int l4), some (.int l5)] [] h P := by
  refine sw_iload dX10_reach_19 rfl ?_
  refine sw_aload_n dX10_reach_21 rfl ?_
  refine sw_cV (M := m_X10_reach) dX10_reach_22 lv_X10_66 hm3 hr3 rfl (by decide) rfl rfl rfl (Nat.le_of_ble_eq_true rfl) (fun _ _ => rfl) rfl ?_
  show SW sc m_X10_reach _ _ _ 25 [some (.ref r0), none, some (.int l2), some (.int l3), some (.int l4), some (.int l5)] [.int v3, .int l5] g3 P
  exact sw_icmp_ge dX10_reach_25 (by decide) (fun q => (sw_fg [false, false, false, false, false, true] rfl (kt q))) (fun q => (kf q))
theorem b_X10_reach_28 {r0 : Nat} {l2 : Int32} {l3 : Int32} {l4 : Int32} {l5 : Int32} {v3 : Int32} {g3 : ab_H} (hm3 : MSE m_X10_has d [.int l4, .int l5] h (some (.int v3)) g3) (kt : v3 = 0 → SW sc m_X10_reach (d + 1) rc rs 62 [some (.ref r0), none, some (.int l2), some (.int l3), some (.int l4), some (.int l5)] [] g3 P) (kf : ¬ (v3 = 0) → SW sc m_X10_reach (d + 1) rc rs 38 [some (.ref r0), none, some (.int l2), some (.int l3), some (.int l4), some (.int l5)] [] g3 P) : SW sc m_X10_reach (d + 1) rc rs 28 [some (.ref r0), none, some (.int l2), some (.int l3), some (.int l4), some (.int l5)] [] h P := by
  refine sw_iload dX10_reach_28 rfl ?_
  refine sw_iload dX10_reach_30 rfl ?_
  refine sw_cS (M := m_X10_reach) dX10_reach_32 ls_X10_70 hm3 rfl rfl (Nat.le_of_ble_eq_true rfl) (fun _ _ => rfl) rfl ?_
  show SW sc m_X10_reach _ _ _ 35 [some (.ref r0), none, some (.int l2), some (.int l3), some (.int l4), some (.int l5)] [.int v3] g3 P
  exact sw_if_eq dX10_reach_35 (by decide) (fun q => (kt q)) (fun q => (kf q))
theorem b_X10_reach_38 {r0 : Nat} {l2 : Int32} {l3 : Int32} {l4 : Int32} {l5 : Int32} {v4 : Int32} {g4 : ab_H} {fs4 : List Value} (hr4 : (h)[r0]? = some (10, fs4)) (hm4 : MSE m_X10_at d [.ref r0, .int l5] h (some (.int v4)) g4) (kt : ¬ l2 = (-1) → SW sc m_X10_reach (d + 1) rc rs 54 [some (.ref r0), none, some (.int l2), none, some (.int l4), some (.int l5)] [.int v4, .int l3] g4 P) (kf : l2 = (-1) → SW sc m_X10_reach (d + 1) rc rs 50 [some (.ref r0), none, some (.int l2), none, some (.int l4), some (.int l5)] [.int v4, .int l3] g4 P) : SW sc m_X10_reach (d + 1) rc rs 38 [some (.ref r0), none, some (.int l2), some (.int l3), some (.int l4), some (.int l5)] [] h P := by
  refine sw_iload_n dX10_reach_38 rfl ?_
  refine sw_aload_n dX10_reach_39 rfl ?_
  refine sw_iload dX10_reach_40 rfl ?_
  refine sw_cV (M := m_X10_reach) dX10_reach_42 lv_X10_74 hm4 hr4 rfl (by decide) rfl rfl rfl (Nat.le_of_ble_eq_true rfl) (fun _ _ => rfl) rfl ?_
  show SW sc m_X10_reach _ _ _ 45 [some (.ref r0), none, some (.int l2), some (.int l3), some (.int l4), some (.int l5)] [.int v4, .int l3] g4 P
  refine sw_iload_n dX10_reach_45 rfl ?_
  refine sw_iconst (v := (-1)) dX10_reach_46 (by decide) ?_
  exact sw_icmp_ne dX10_reach_47 (by decide) (fun q => (sw_fg [false, false, false, true, false, false] rfl (kt q))) (fun q => (sw_fg [false, false, false, true, false, false] rfl (kf q)))
theorem b_X10_reach_50 {r0 : Nat} {l2 : Int32} {l4 : Int32} {l5 : Int32} {s0 : Int32} {s1 : Int32} (k : SW sc m_X10_reach d rc rs 59 [some (.ref r0), none, some (.int l2), none, some (.int l4), some (.int l5)] [.int (-1), .int s1, .int s0] h P) : SW sc m_X10_reach d rc rs 50 [some (.ref r0), none, some (.int l2), none, some (.int l4), some (.int l5)] [.int s1, .int s0] h P := by
  refine sw_iconst (v := (-1)) dX10_reach_50 (by decide) ?_
  exact sw_goto dX10_reach_51 (by decide) (k)
theorem b_X10_reach_54 {r0 : Nat} {l2 : Int32} {l4 : Int32} {l5 : Int32} {s0 : Int32} {s1 : Int32} (k : SW sc m_X10_reach d rc rs 59 [some (.ref r0), none, some (.int l2), none, some (.int l4), some (.int l5)] [.int ((1 <<< (l2 &&& 31)) ^^^ (-1)), .int s1, .int s0] h P) : SW sc m_X10_reach d rc rs 54 [some (.ref r0), none, some (.int l2), none, some (.int l4), some (.int l5)] [.int s1, .int s0] h P := by
  refine sw_iconst (v := 1) dX10_reach_54 (by decide) ?_
  refine sw_iload_n dX10_reach_55 rfl ?_
  refine sw_ishl dX10_reach_56 ?_
  refine sw_iconst (v := (-1)) dX10_reach_57 (by decide) ?_
  refine sw_ixor dX10_reach_58 ?_
  exact (k)
theorem b_X10_reach_59 {r0 : Nat} {l2 : Int32} {l4 : Int32} {l5 : Int32} {s0 : Int32} {s1 : Int32} {s2 : Int32} (k : SW sc m_X10_reach d rc rs 62 [some (.ref r0), none, some (.int l2), some (.int (s0 ||| (s1 &&& s2))), some (.int l4), some (.int l5)] [] h P) : SW sc m_X10_reach d rc rs 59 [some (.ref r0), none, some (.int l2), none, some (.int l4), some (.int l5)] [.int s2, .int s1, .int s0] h P := by
  refine sw_iand dX10_reach_59 ?_
  refine sw_ior dX10_reach_60 ?_
  refine sw_istore_n dX10_reach_61 (by decide) rfl ?_
  show SW sc m_X10_reach _ _ _ 62 [some (.ref r0), none, some (.int l2), some (.int (s0 ||| (s1 &&& s2))), some (.int l4), some (.int l5)] [] h P
  exact (k)
theorem b_X10_reach_62 {r0 : Nat} {l2 : Int32} {l3 : Int32} {l4 : Int32} {l5 : Int32} (k : SW sc m_X10_reach d rc rs 19 [some (.ref r0), none, some (.int l2), some (.int l3), some (.int l4), some (.int (l5 + 1))] [] h P) : SW sc m_X10_reach d rc rs 62 [some (.ref r0), none, some (.int l2), some (.int l3), some (.int l4), some (.int l5)] [] h P := by
  refine sw_iinc (v := l5 + 1) dX10_reach_62 rfl rfl (by decide) rfl ?_
  show SW sc m_X10_reach _ _ _ 65 [some (.ref r0), none, some (.int l2), some (.int l3), some (.int l4), some (.int (l5 + 1))] [] h P
  exact sw_goto dX10_reach_65 (by decide) (k)
theorem b_X10_reach_68 {r0 : Nat} {l2 : Int32} {l3 : Int32} {l4 : Int32} (k : SW sc m_X10_reach d rc rs 7 [some (.ref r0), none, some (.int l2), some (.int l3), some (.int l4), none] [] h P) : SW sc m_X10_reach d rc rs 68 [some (.ref r0), none, some (.int l2), some (.int l3), some (.int l4), none] [] h P := by
  exact sw_goto dX10_reach_68 (by decide) (k)
theorem b_X10_reach_71 {l3 : Int32} (hP : P (.inl (some (.int l3))) h) : SW sc m_X10_reach d rc rs 71 [none, none, none, some (.int l3), none, none] [] h P := by
  refine sw_iload_n dX10_reach_71 rfl ?_
  exact sw_ret (v := (some (.int l3))) dX10_reach_72 rt_i hP
theorem b_X10_component_0 {r0 : Nat} {l1 : Int32} {v4 : Int32} {g4 : ab_H} {fs4 : List Value} (hr4 : (h)[r0]? = some (10, fs4)) (hm4 : MSE m_X10_reach d [.ref r0, .int l1, .int (-1)] h (some (.int v4)) g4) (hP : P (.inl (some (.int v4))) g4) : SW sc m_X10_component (d + 1) rc rs 0 [some (.ref r0), some (.int l1)] [] h P := by
  refine sw_aload_n dX10_component_0 rfl ?_
  refine sw_iload_n dX10_component_1 rfl ?_
  refine sw_iconst (v := (-1)) dX10_component_2 (by decide) ?_
  refine sw_cV (M := m_X10_component) dX10_component_3 lv_X10_77 hm4 hr4 rfl (by decide) rfl rfl rfl (Nat.le_of_ble_eq_true rfl) (fun _ _ => rfl) rfl ?_
  show SW sc m_X10_component _ _ _ 6 [some (.ref r0), some (.int l1)] [.int v4] g4 P
  exact sw_ret (v := (some (.int v4))) dX10_component_6 rt_i hP
theorem b_X10_lowest_0 {l0 : Int32} {v2 : Int32} {g2 : ab_H} (hm2 : MSE m_J6_numberOfTrailingZeros_0f7a4 d [.int l0] h (some (.int v2)) g2) (hP : P (.inl (some (.int v2))) g2) : SW sc m_X10_lowest (d + 1) rc rs 0 [some (.int l0)] [] h P := by
  refine sw_iload_n dX10_lowest_0 rfl ?_
  refine sw_cS (M := m_X10_lowest) dX10_lowest_1 ls_X10_81 hm2 rfl rfl (Nat.le_of_ble_eq_true rfl) (fun _ _ => rfl) rfl ?_
  show SW sc m_X10_lowest _ _ _ 4 [some (.int l0)] [.int v2] g2 P
  exact sw_ret (v := (some (.int v2))) dX10_lowest_4 rt_i hP
theorem b_X10_componentMany_0 {r0 : Nat} (k : SW sc m_X10_componentMany d rc rs 4 [some (.ref r0), some (.int 0), some (.int 0)] [] h P) : SW sc m_X10_componentMany d rc rs 0 [some (.ref r0), none, none] [] h P := by
  refine sw_iconst (v := 0) dX10_componentMany_0 (by decide) ?_
  refine sw_istore_n dX10_componentMany_1 (by decide) rfl ?_
  show SW sc m_X10_componentMany _ _ _ 2 [some (.ref r0), some (.int 0), none] [] h P
  refine sw_iconst (v := 0) dX10_componentMany_2 (by decide) ?_
  refine sw_istore_n dX10_componentMany_3 (by decide) rfl ?_
  show SW sc m_X10_componentMany _ _ _ 4 [some (.ref r0), some (.int 0), some (.int 0)] [] h P
  exact (k)
theorem b_X10_componentMany_4 {r0 : Nat} {l1 : Int32} {l2 : Int32} {v3 : Int32} {g3 : ab_H} {fs3 : List Value} (hr3 : (h)[r0]? = some (10, fs3)) (hm3 : MSE m_X10_many d [.ref r0] h (some (.int v3)) g3) (kt : v3 ≤ l2 → SW sc m_X10_componentMany (d + 1) rc rs 38 [none, some (.int l1), none] [] g3 P) (kf : ¬ (v3 ≤ l2) → SW sc m_X10_componentMany (d + 1) rc rs 12 [some (.ref r0), some (.int l1), some (.int l2)] [] g3 P) : SW sc m_X10_componentMany (d + 1) rc rs 4 [some (.ref r0), some (.int l1), some (.int l2)] [] h P := by
  refine sw_iload_n dX10_componentMany_4 rfl ?_
  refine sw_aload_n dX10_componentMany_5 rfl ?_
  refine sw_cV (M := m_X10_componentMany) dX10_componentMany_6 lv_X10_66 hm3 hr3 rfl (by decide) rfl rfl rfl (Nat.le_of_ble_eq_true rfl) (fun _ _ => rfl) rfl ?_
  show SW sc m_X10_componentMany _ _ _ 9 [some (.ref r0), some (.int l1), some (.int l2)] [.int v3, .int l2] g3 P
  exact sw_icmp_ge dX10_componentMany_9 (by decide) (fun q => (sw_fg [true, false, true] rfl (kt q))) (fun q => (kf q))
theorem b_X10_componentMany_12 {r0 : Nat} {l1 : Int32} {l2 : Int32} {v4 : Int32} {g4 : ab_H} {fs4 : List Value} {v5 : Int32} {g5 : ab_H} (hr4 : (h)[r0]? = some (10, fs4)) (hm4 : MSE m_X10_component d [.ref r0, .int l2] h (some (.int v4)) g4) (hm5 : MSE m_X10_lowest d [.int v4] g4 (some (.int v5)) g5) (kt : ¬ v5 = l2 → SW sc m_X10_componentMany (d + 1) rc rs 29 [some (.ref r0), none, some (.int l2)] [.int l1] g5 P) (kf : v5 = l2 → SW sc m_X10_componentMany (d + 1) rc rs 25 [some (.ref r0), none, some (.int l2)] [.int l1] g5 P) : SW sc m_X10_componentMany (d + 1) rc rs 12 [some (.ref r0), some (.int l1), some (.int l2)] [] h P := by
  refine sw_iload_n dX10_componentMany_12 rfl ?_
  refine sw_aload_n dX10_componentMany_13 rfl ?_
  refine sw_iload_n dX10_componentMany_14 rfl ?_
  refine sw_cV (M := m_X10_componentMany) dX10_componentMany_15 lv_X10_84 hm4 hr4 rfl (by decide) rfl rfl rfl (Nat.le_of_ble_eq_true rfl) (fun _ _ => rfl) rfl ?_
  show SW sc m_X10_componentMany _ _ _ 18 [some (.ref r0), some (.int l1), some (.int l2)] [.int v4, .int l1] g4 P
  refine sw_cS (M := m_X10_componentMany) dX10_componentMany_18 ls_X10_87 hm5 rfl rfl (Nat.le_of_ble_eq_true rfl) (fun _ _ => rfl) rfl ?_
  show SW sc m_X10_componentMany _ _ _ 21 [some (.ref r0), some (.int l1), some (.int l2)] [.int v5, .int l1] g5 P
  refine sw_iload_n dX10_componentMany_21 rfl ?_
  exact sw_icmp_ne dX10_componentMany_22 (by decide) (fun q => (sw_fg [false, true, false] rfl (kt q))) (fun q => (sw_fg [false, true, false] rfl (kf q)))
theorem b_X10_componentMany_25 {r0 : Nat} {l2 : Int32} {s0 : Int32} (k : SW sc m_X10_componentMany d rc rs 30 [some (.ref r0), none, some (.int l2)] [.int 1, .int s0] h P) : SW sc m_X10_componentMany d rc rs 25 [some (.ref r0), none, some (.int l2)] [.int s0] h P := by
  refine sw_iconst (v := 1) dX10_componentMany_25 (by decide) ?_
  exact sw_goto dX10_componentMany_26 (by decide) (k)
theorem b_X10_componentMany_29 {r0 : Nat} {l2 : Int32} {s0 : Int32} (k : SW sc m_X10_componentMany d rc rs 30 [some (.ref r0), none, some (.int l2)] [.int 0, .int s0] h P) : SW sc m_X10_componentMany d rc rs 29 [some (.ref r0), none, some (.int l2)] [.int s0] h P := by
  refine sw_iconst (v := 0) dX10_componentMany_29 (by decide) ?_
  exact (k)
theorem b_X10_componentMany_30 {r0 : Nat} {l2 : Int32} {s0 : Int32} {s1 : Int32} (k : SW sc m_X10_componentMany d rc rs 4 [some (.ref r0), some (.int (s0 + s1)), some (.int (l2 + 1))] [] h P) : SW sc m_X10_componentMany d rc rs 30 [some (.ref r0), none, some (.int l2)] [.int s1, .int s0] h P := by
  refine sw_iadd dX10_componentMany_30 ?_
  refine sw_istore_n dX10_componentMany_31 (by decide) rfl ?_
  show SW sc m_X10_componentMany _ _ _ 32 [some (.ref r0), some (.int (s0 + s1)), some (.int l2)] [] h P
  refine sw_iinc (v := l2 + 1) dX10_componentMany_32 rfl rfl (by decide) rfl ?_
  show SW sc m_X10_componentMany _ _ _ 35 [some (.ref r0), some (.int (s0 + s1)), some (.int (l2 + 1))] [] h P
  exact sw_goto dX10_componentMany_35 (by decide) (k)
theorem b_X10_componentMany_38 {l1 : Int32} (hP : P (.inl (some (.int l1))) h) : SW sc m_X10_componentMany d rc rs 38 [none, some (.int l1), none] [] h P := by
  refine sw_iload_n dX10_componentMany_38 rfl ?_
  exact sw_ret (v := (some (.int l1))) dX10_componentMany_39 rt_i hP
theorem b_X10_componentAt_0 {r0 : Nat} {l1 : Int32} (k : SW sc m_X10_componentAt d rc rs 4 [some (.ref r0), none, some (.int l1), some (.int 0), none] [] h P) : SW sc m_X10_componentAt d rc rs 0 [some (.ref r0), some (.int l1), none, none, none] [] h P := by
  refine sw_iload_n dX10_componentAt_0 rfl ?_
  refine sw_istore_n dX10_componentAt_1 (by decide) rfl ?_
  show SW sc m_X10_componentAt _ _ _ 2 [some (.ref r0), some (.int l1), some (.int l1), none, none] [] h P
  refine sw_iconst (v := 0) dX10_componentAt_2 (by decide) ?_
  refine sw_istore_n dX10_componentAt_3 (by decide) rfl ?_
  show SW sc m_X10_componentAt _ _ _ 4 [some (.ref r0), some (.int l1), some (.int l1), some (.int 0), none] [] h P
  exact (sw_fg [false, true, false, false, false] rfl (k))
theorem b_X10_componentAt_4 {r0 : Nat} {l2 : Int32} {l3 : Int32} {v3 : Int32} {g3 : ab_H} {fs3 : List Value} (hr3 : (h)[r0]? = some (10, fs3)) (hm3 : MSE m_X10_many d [.ref r0] h (some (.int v3)) g3) (kt : v3 ≤ l3 → SW sc m_X10_componentAt (d + 1) rc rs 47 [none, none, none, none, none] [] g3 P) (kf : ¬ (v3 ≤ l3) → SW sc m_X10_componentAt (d + 1) rc rs 12 [some (.ref r0), none, some (.int l2), some (.int l3), none] [] g3 P) : SW sc m_X10_componentAt (d + 1) rc rs 4 [some (.ref r0), none, some (.int l2), some (.int l3), none] [] h P := by
  refine sw_iload_n dX10_componentAt_4 rfl ?_
  refine sw_aload_n dX10_componentAt_5 rfl ?_
  refine sw_cV (M := m_X10_componentAt) dX10_componentAt_6 lv_X10_66 hm3 hr3 rfl (by decide) rfl rfl rfl (Nat.le_of_ble_eq_true rfl) (fun _ _ => rfl) rfl ?_
  show SW sc m_X10_componentAt _ _ _ 9 [some (.ref r0), none, some (.int l2), some (.int l3), none] [.int v3, .int l3] g3 P
  exact sw_icmp_ge dX10_componentAt_9 (by decide) (fun q => (sw_fg [true, false, true, true, false] rfl (kt q))) (fun q => (kf q))
theorem b_X10_componentAt_12 {r0 : Nat} {l2 : Int32} {l3 : Int32} {v3 : Int32} {g3 : ab_H} {fs3 : List Value} {v6 : Int32} {g6 : ab_H} (hr3 : (h)[r0]? = some (10, fs3)) (hm3 : MSE m_X10_component d [.ref r0, .int l3] h (some (.int v3)) g3) (hm6 : MSE m_X10_lowest d [.int v3] g3 (some (.int v6)) g6) (kt : v6 = l3 → SW sc m_X10_componentAt (d + 1) rc rs 31 [some (.ref r0), none, some (.int l2), some (.int l3), some (.int v3)] [] g6 P) (kf : ¬ (v6 = l3) → SW sc m_X10_componentAt (d + 1) rc rs 28 [some (.ref r0), none, some (.int l2), some (.int l3), none] [] g6 P) : SW sc m_X10_componentAt (d + 1) rc rs 12 [some (.ref r0), none, some (.int l2), some (.int l3), none] [] h P := by
  refine sw_aload_n dX10_componentAt_12 rfl ?_
  refine sw_iload_n dX10_componentAt_13 rfl ?_
  refine sw_cV (M := m_X10_componentAt) dX10_componentAt_14 lv_X10_84 hm3 hr3 rfl (by decide) rfl rfl rfl (Nat.le_of_ble_eq_true rfl) (fun _ _ => rfl) rfl ?_
  show SW sc m_X10_componentAt _ _ _ 17 [some (.ref r0), none, some (.int l2), some (.int l3), none] [.int v3] g3 P
  refine sw_istore dX10_componentAt_17 (by decide) rfl ?_
  show SW sc m_X10_componentAt _ _ _ 19 [some (.ref r0), none, some (.int l2), some (.int l3), some (.int v3)] [] g3 P
  refine sw_iload dX10_componentAt_19 rfl ?_
  refine sw_cS (M := m_X10_componentAt) dX10_componentAt_21 ls_X10_87 hm6 rfl rfl (Nat.le_of_ble_eq_true rfl) (fun _ _ => rfl) rfl ?_
  show SW sc m_X10_componentAt _ _ _ 24 [some (.ref r0), none, some (.int l2), some (.int l3), some (.int v3)] [.int v6] g6 P
  refine sw_iload_n dX10_componentAt_24 rfl ?_
  exact sw_icmp_eq dX10_componentAt_25 (by decide) (fun q => (kt q)) (fun q => (sw_fg [false, false, false, false, true] rfl (kf q)))
theorem b_X10_componentAt_28 {r0 : Nat} {l2 : Int32} {l3 : Int32} (k : SW sc m_X10_componentAt d rc rs 41 [some (.ref r0), none, some (.int l2), some (.int l3), none] [] h P) : SW sc m_X10_componentAt d rc rs 28 [some (.ref r0), none, some (.int l2), some (.int l3), none] [] h P := by
  exact sw_goto dX10_componentAt_28 (by decide) (k)
theorem b_X10_componentAt_31 {r0 : Nat} {l2 : Int32} {l3 : Int32} {l4 : Int32} (kt : ¬ l2 = 0 → SW sc m_X10_componentAt d rc rs 38 [some (.ref r0), none, some (.int l2), some (.int l3), none] [] h P) (kf : l2 = 0 → SW sc m_X10_componentAt d rc rs 35 [none, none, none, none, some (.int l4)] [] h P) : SW sc m_X10_componentAt d rc rs 31 [some (.ref r0), none, some (.int l2), some (.int l3), some (.int l4)] [] h P := by
  refine sw_iload_n dX10_componentAt_31 rfl ?_
  exact sw_if_ne dX10_componentAt_32 (by decide) (fun q => (sw_fg [false, false, false, false, true] rfl (kt q))) (fun q => (sw_fg [true, false, true, true, false] rfl (kf q)))
theorem b_X10_componentAt_35 {l4 : Int32} (hP : P (.inl (some (.int l4))) h) : SW sc m_X10_componentAt d rc rs 35 [none, none, none, none, some (.int l4)] [] h P := by
  refine sw_iload dX10_componentAt_35 rfl ?_
  exact sw_ret (v := (some (.int l4))) dX10_componentAt_37 rt_i hP
theorem b_X10_componentAt_38 {r0 : Nat} {l2 : Int32} {l3 : Int32} (k : SW sc m_X10_componentAt d rc rs 41 [some (.ref r0), none, some (.int (l2 + (-1))), some (.int l3), none] [] h P) : SW sc m_X10_componentAt d rc rs 38 [some (.ref r0), none, some (.int l2), some (.int l3), none] [] h P := by
  refine sw_iinc (v := l2 + (-1)) dX10_componentAt_38 rfl rfl (by decide) rfl ?_
  show SW sc m_X10_componentAt _ _ _ 41 [some (.ref r0), none, some (.int (l2 + (-1))), some (.int l3), none] [] h P
  exact (k)
theorem b_X10_componentAt_41 {r0 : Nat} {l2 : Int32} {l3 : Int32} (k : SW sc m_X10_componentAt d rc rs 4 [some (.ref r0), none, some (.int l2), some (.int (l3 + 1)), none] [] h P) : SW sc m_X10_componentAt d rc rs 41 [some (.ref r0), none, some (.int l2), some (.int l3), none] [] h P := by
  refine sw_iinc (v := l3 + 1) dX10_componentAt_41 rfl rfl (by decide) rfl ?_
  show SW sc m_X10_componentAt _ _ _ 44 [some (.ref r0), none, some (.int l2), some (.int (l3 + 1)), none] [] h P
  exact sw_goto dX10_componentAt_44 (by decide) (k)
theorem b_X10_componentAt_47  (hP : P (.inl (some (.int 0))) h) : SW sc m_X10_componentAt d rc rs 47 [none, none, none, none, none] [] h P := by
  refine sw_iconst (v := 0) dX10_componentAt_47 (by decide) ?_
  exact sw_ret (v := (some (.int 0))) dX10_componentAt_48 rt_i hP
theorem b_X10_numberOf_0 {r0 : Nat} {l1 : Int32} (k : SW sc m_X10_numberOf d rc rs 4 [some (.ref r0), some (.int l1), some (.int 0), some (.int 0)] [] h P) : SW sc m_X10_numberOf d rc rs 0 [some (.ref r0), some (.int l1), none, none] [] h P := by
  refine sw_iconst (v := 0) dX10_numberOf_0 (by decide) ?_
  refine sw_istore_n dX10_numberOf_1 (by decide) rfl ?_
  show SW sc m_X10_numberOf _ _ _ 2 [some (.ref r0), some (.int l1), some (.int 0), none] [] h P
  refine sw_iconst (v := 0) dX10_numberOf_2 (by decide) ?_
  refine sw_istore_n dX10_numberOf_3 (by decide) rfl ?_
  show SW sc m_X10_numberOf _ _ _ 4 [some (.ref r0), some (.int l1), some (.int 0), some (.int 0)] [] h P
  exact (k)
theorem b_X10_numberOf_4 {r0 : Nat} {l1 : Int32} {l2 : Int32} {l3 : Int32} {v4 : Int32} {g4 : ab_H} {fs4 : List Value} {v5 : Int32} {g5 : ab_H} (hr4 : (h)[r0]? = some (10, fs4)) (hm4 : MSE m_X10_component d [.ref r0, .int l1] h (some (.int v4)) g4) (hm5 : MSE m_X10_lowest d [.int v4] g4 (some (.int v5)) g5) (kt : v5 ≤ l3 → SW sc m_X10_numberOf (d + 1) rc rs 42 [none, none, some (.int l2), none] [] g5 P) (kf : ¬ (v5 ≤ l3) → SW sc m_X10_numberOf (d + 1) rc rs 16 [some (.ref r0), some (.int l1), some (.int l2), some (.int l3)] [] g5 P) : SW sc m_X10_numberOf (d + 1) rc rs 4 [some (.ref r0), some (.int l1), some (.int l2), some (.int l3)] [] h P := by
  refine sw_iload_n dX10_numberOf_4 rfl ?_
  refine sw_aload_n dX10_numberOf_5 rfl ?_
  refine sw_iload_n dX10_numberOf_6 rfl ?_
  refine sw_cV (M := m_X10_numberOf) dX10_numberOf_7 lv_X10_84 hm4 hr4 rfl (by decide) rfl rfl rfl (Nat.le_of_ble_eq_true rfl) (fun _ _ => rfl) rfl ?_
  show SW sc m_X10_numberOf _ _ _ 10 [some (.ref r0), some (.int l1), some (.int l2), some (.int l3)] [.int v4, .int l3] g4 P
  refine sw_cS (M := m_X10_numberOf) dX10_numberOf_10 ls_X10_87 hm5 rfl rfl (Nat.le_of_ble_eq_true rfl) (fun _ _ => rfl) rfl ?_
  show SW sc m_X10_numberOf _ _ _ 13 [some (.ref r0), some (.int l1), some (.int l2), some (.int l3)] [.int v5, .int l3] g5 P
  exact sw_icmp_ge dX10_numberOf_13 (by decide) (fun q => (sw_fg [true, true, false, true] rfl (kt q))) (fun q => (kf q))
theorem b_X10_numberOf_16 {r0 : Nat} {l1 : Int32} {l2 : Int32} {l3 : Int32} {v4 : Int32} {g4 : ab_H} {fs4 : List Value} {v5 : Int32} {g5 : ab_H} (hr4 : (h)[r0]? = some (10, fs4)) (hm4 : MSE m_X10_component d [.ref r0, .int l3] h (some (.int v4)) g4) (hm5 : MSE m_X10_lowest d [.int v4] g4 (some (.int v5)) g5) (kt : ¬ v5 = l3 → SW sc m_X10_numberOf (d + 1) rc rs 33 [some (.ref r0), some (.int l1), none, some (.int l3)] [.int l2] g5 P) (kf : v5 = l3 → SW sc m_X10_numberOf (d + 1) rc rs 29 [some (.ref r0), some (.int l1), none, some (.int l3)] [.int l2] g5 P) : SW sc m_X10_numberOf (d + 1) rc rs 16 [some (.ref r0), some (.int l1), some (.int l2), some (.int l3)] [] h P := by
  refine sw_iload_n dX10_numberOf_16 rfl ?_
  refine sw_aload_n dX10_numberOf_17 rfl ?_
  refine sw_iload_n dX10_numberOf_18 rfl ?_
  refine sw_cV (M := m_X10_numberOf) dX10_numberOf_19 lv_X10_84 hm4 hr4 rfl (by decide) rfl rfl rfl (Nat.le_of_ble_eq_true rfl) (fun _ _ => rfl) rfl ?_
  show SW sc m_X10_numberOf _ _ _ 22 [some (.ref r0), some (.int l1), some (.int l2), some (.int l3)] [.int v4, .int l2] g4 P
  refine sw_cS (M := m_X10_numberOf) dX10_numberOf_22 ls_X10_87 hm5 rfl rfl (Nat.le_of_ble_eq_true rfl) (fun _ _ => rfl) rfl ?_
  show SW sc m_X10_numberOf _ _ _ 25 [some (.ref r0), some (.int l1), some (.int l2), some (.int l3)] [.int v5, .int l2] g5 P
  refine sw_iload_n dX10_numberOf_25 rfl ?_
  exact sw_icmp_ne dX10_numberOf_26 (by decide) (fun q => (sw_fg [false, false, true, false] rfl (kt q))) (fun q => (sw_fg [false, false, true, false] rfl (kf q)))
theorem b_X10_numberOf_29 {r0 : Nat} {l1 : Int32} {l3 : Int32} {s0 : Int32} (k : SW sc m_X10_numberOf d rc rs 34 [some (.ref r0), some (.int l1), none, some (.int l3)] [.int 1, .int s0] h P) : SW sc m_X10_numberOf d rc rs 29 [some (.ref r0), some (.int l1), none, some (.int l3)] [.int s0] h P := by
  refine sw_iconst (v := 1) dX10_numberOf_29 (by decide) ?_
  exact sw_goto dX10_numberOf_30 (by decide) (k)
theorem b_X10_numberOf_33 {r0 : Nat} {l1 : Int32} {l3 : Int32} {s0 : Int32} (k : SW sc m_X10_numberOf d rc rs 34 [some (.ref r0), some (.int l1), none, some (.int l3)] [.int 0, .int s0] h P) : SW sc m_X10_numberOf d rc rs 33 [some (.ref r0), some (.int l1), none, some (.int l3)] [.int s0] h P := by
  refine sw_iconst (v := 0) dX10_numberOf_33 (by decide) ?_
  exact (k)
end
