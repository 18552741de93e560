section
variable {sc : Option (List Int32)} {d rc rs : Nat} {h : ab_H} {P : ab_O → ab_H → Prop}
theorem b_X10_thrown_0 {r0 : Nat} {fs2 : List Value} {x2 : Int32} (hc2 : (h)[r0]? = some (10, fs2)) (hv2 : fs2[0]? = some (.int x2)) (hP : P (.inl (some (.int x2))) h) : SW sc m_X10_thrown d rc rs 0 [some (.ref r0)] [] h P := by
  refine sw_aload_n dX10_thrown_0 rfl ?_
  refine sw_getf dX10_thrown_1 lf_X10_1 hc2 hv2 ?_
  exact sw_ret (v := (some (.int x2))) dX10_thrown_4 rt_i hP
theorem b_X10_isIn_0 {l0 : Int32} {l1 : Int32} {l2 : Int32} (kt : l0 < l1 → SW sc m_X10_isIn d rc rs 14 [none, none, none] [] h P) (kf : ¬ (l0 < l1) → SW sc m_X10_isIn d rc rs 5 [some (.int l0), none, some (.int l2)] [] h P) : SW sc m_X10_isIn d rc rs 0 [some (.int l0), some (.int l1), some (.int l2)] [] h P := by
  refine sw_iload_n dX10_isIn_0 rfl ?_
  refine sw_iload_n dX10_isIn_1 rfl ?_
  exact sw_icmp_lt dX10_isIn_2 (by decide) (fun q => (sw_fg [true, true, true] rfl (kt q))) (fun q => (sw_fg [false, true, false] rfl (kf q)))
theorem b_X10_isIn_5 {l0 : Int32} {l2 : Int32} (kt : l2 < l0 → SW sc m_X10_isIn d rc rs 14 [none, none, none] [] h P) (kf : ¬ (l2 < l0) → SW sc m_X10_isIn d rc rs 10 [none, none, none] [] h P) : SW sc m_X10_isIn d rc rs 5 [some (.int l0), none, some (.int l2)] [] h P := by
  refine sw_iload_n dX10_isIn_5 rfl ?_
  refine sw_iload_n dX10_isIn_6 rfl ?_
  exact sw_icmp_gt dX10_isIn_7 (by decide) (fun q => (sw_fg [true, false, true] rfl (kt q))) (fun q => (sw_fg [true, false, true] rfl (kf q)))
theorem b_X10_isIn_10  (k : SW sc m_X10_isIn d rc rs 15 [none, none, none] [.int 1] h P) : SW sc m_X10_isIn d rc rs 10 [none, none, none] [] h P := by
  refine sw_iconst (v := 1) dX10_isIn_10 (by decide) ?_
  exact sw_goto dX10_isIn_11 (by decide) (k)
theorem b_X10_isIn_14  (k : SW sc m_X10_isIn d rc rs 15 [none, none, none] [.int 0] h P) : SW sc m_X10_isIn d rc rs 14 [none, none, none] [] h P := by
  refine sw_iconst (v := 0) dX10_isIn_14 (by decide) ?_
  exact (k)
theorem b_X10_isIn_15 {s0 : Int32} (hz1 : narrow .boolean (.int s0) = .int s0) (hP : P (.inl (some (.int s0))) h) : SW sc m_X10_isIn d rc rs 15 [none, none, none] [.int s0] h P := by
  exact sw_ret (v := (some (.int s0))) dX10_isIn_15 (rt_n hz1) hP
theorem b_X10_has_0 {l0 : Int32} {l1 : Int32} (kt : ¬ ((l0 >>> (l1 &&& 31)) &&& 1) = 1 → SW sc m_X10_has d rc rs 13 [none, none] [] h P) (kf : ((l0 >>> (l1 &&& 31)) &&& 1) = 1 → SW sc m_X10_has d rc rs 9 [none, none] [] h P) : SW sc m_X10_has d rc rs 0 [some (.int l0), some (.int l1)] [] h P := by
  refine sw_iload_n dX10_has_0 rfl ?_
  refine sw_iload_n dX10_has_1 rfl ?_
  refine sw_ishr dX10_has_2 ?_
  refine sw_iconst (v := 1) dX10_has_3 (by decide) ?_
  refine sw_iand dX10_has_4 ?_
  refine sw_iconst (v := 1) dX10_has_5 (by decide) ?_
  exact sw_icmp_ne dX10_has_6 (by decide) (fun q => (sw_fg [true, true] rfl (kt q))) (fun q => (sw_fg [true, true] rfl (kf q)))
theorem b_X10_has_9  (k : SW sc m_X10_has d rc rs 14 [none, none] [.int 1] h P) : SW sc m_X10_has d rc rs 9 [none, none] [] h P := by
  refine sw_iconst (v := 1) dX10_has_9 (by decide) ?_
  exact sw_goto dX10_has_10 (by decide) (k)
theorem b_X10_has_13  (k : SW sc m_X10_has d rc rs 14 [none, none] [.int 0] h P) : SW sc m_X10_has d rc rs 13 [none, none] [] h P := by
  refine sw_iconst (v := 0) dX10_has_13 (by decide) ?_
  exact (k)
theorem b_X10_has_14 {s0 : Int32} (hz1 : narrow .boolean (.int s0) = .int s0) (hP : P (.inl (some (.int s0))) h) : SW sc m_X10_has d rc rs 14 [none, none] [.int s0] h P := by
  exact sw_ret (v := (some (.int s0))) dX10_has_14 (rt_n hz1) hP
theorem b_X10_ones_0 {l0 : Int32} {v2 : Int32} {g2 : ab_H} (hm2 : MSE m_J6_bitCount_0f7a4 d [.int l0] h (some (.int v2)) g2) (hP : P (.inl (some (.int v2))) g2) : SW sc m_X10_ones (d + 1) rc rs 0 [some (.int l0)] [] h P := by
  refine sw_iload_n dX10_ones_0 rfl ?_
  refine sw_cS dX10_ones_1 ls_X10_7 hm2 rfl rfl (Nat.le_of_ble_eq_true rfl) (fun _ _ => rfl) rfl ?_
  show SW sc m_X10_ones _ _ _ 4 [some (.int l0)] [.int v2] g2 P
  exact sw_ret (v := (some (.int v2))) dX10_ones_4 rt_i hP
theorem b_X10_fails_0 {r0 : Nat} {l1 : Int32} {l2 : Int32} (kt : l1 = 0 → SW sc m_X10_fails d rc rs 9 [some (.ref r0), none, some (.int l2)] [.ref r0] h P) (kf : ¬ (l1 = 0) → SW sc m_X10_fails d rc rs 5 [some (.ref r0), none, none] [.ref r0] h P) : SW sc m_X10_fails d rc rs 0 [some (.ref r0), some (.int l1), some (.int l2)] [] h P := by
  refine sw_aload_n dX10_fails_0 rfl ?_
  refine sw_iload_n dX10_fails_1 rfl ?_
  exact sw_if_eq dX10_fails_2 (by decide) (fun q => (sw_fg [false, true, false] rfl (kt q))) (fun q => (sw_fg [false, true, true] rfl (kf q)))
theorem b_X10_fails_5 {r0 : Nat} {q0 : Nat} (k : SW sc m_X10_fails d rc rs 18 [some (.ref r0), none, none] [.int 1, .ref q0] h P) : SW sc m_X10_fails d rc rs 5 [some (.ref r0), none, none] [.ref q0] h P := by
  refine sw_iconst (v := 1) dX10_fails_5 (by decide) ?_
  exact sw_goto dX10_fails_6 (by decide) (k)
theorem b_X10_fails_9 {r0 : Nat} {l2 : Int32} {q0 : Nat} (kt : l2 = 0 → SW sc m_X10_fails d rc rs 17 [some (.ref r0), none, none] [.ref q0] h P) (kf : ¬ (l2 = 0) → SW sc m_X10_fails d rc rs 13 [some (.ref r0), none, none] [.ref q0] h P) : SW sc m_X10_fails d rc rs 9 [some (.ref r0), none, some (.int l2)] [.ref q0] h P := by
  refine sw_iload_n dX10_fails_9 rfl ?_
  exact sw_if_eq dX10_fails_10 (by decide) (fun q => (sw_fg [false, false, true] rfl (kt q))) (fun q => (sw_fg [false, false, true] rfl (kf q)))
theorem b_X10_fails_13 {r0 : Nat} {q0 : Nat} (k : SW sc m_X10_fails d rc rs 18 [some (.ref r0), none, none] [.int 2, .ref q0] h P) : SW sc m_X10_fails d rc rs 13 [some (.ref r0), none, none] [.ref q0] h P := by
  refine sw_iconst (v := 2) dX10_fails_13 (by decide) ?_
  exact sw_goto dX10_fails_14 (by decide) (k)
theorem b_X10_fails_17 {r0 : Nat} {q0 : Nat} (k : SW sc m_X10_fails d rc rs 18 [some (.ref r0), none, none] [.int 0, .ref q0] h P) : SW sc m_X10_fails d rc rs 17 [some (.ref r0), none, none] [.ref q0] h P := by
  refine sw_iconst (v := 0) dX10_fails_17 (by decide) ?_
  exact (k)
theorem b_X10_fails_18 {r0 : Nat} {q0 : Nat} {s1 : Int32} {fs1 : List Value} {fs3 : List Value} {x3 : Int32} (hc1 : (h)[q0]? = some (10, fs1)) (hk1 : 0 < fs1.length) (hc3 : ((h).set q0 (10, fs1.set 0 (.int s1)))[r0]? = some (10, fs3)) (hv3 : fs3[0]? = some (.int x3)) (kt : x3 ≤ 0 → SW sc m_X10_fails d rc rs 32 [none, none, none] [] ((h).set q0 (10, fs1.set 0 (.int s1))) P) (kf : ¬ (x3 ≤ 0) → SW sc m_X10_fails d rc rs 28 [none, none, none] [] ((h).set q0 (10, fs1.set 0 (.int s1))) P) : SW sc m_X10_fails d rc rs 18 [some (.ref r0), none, none] [.int s1, .ref q0] h P := by
  refine sw_putf dX10_fails_18 lp_X10_1 hc1 hk1 (fun _ _ => ⟨rfl, rfl⟩) ?_
  refine sw_aload_n dX10_fails_21 rfl ?_
  refine sw_getf dX10_fails_22 lf_X10_1 hc3 hv3 ?_
  exact sw_if_le dX10_fails_25 (by decide) (fun q => (sw_fg [true, false, false] rfl (kt q))) (fun q => (sw_fg [true, false, false] rfl (kf q)))
theorem b_X10_fails_28  (k : SW sc m_X10_fails d rc rs 33 [none, none, none] [.int 1] h P) : SW sc m_X10_fails d rc rs 28 [none, none, none] [] h P := by
  refine sw_iconst (v := 1) dX10_fails_28 (by decide) ?_
  exact sw_goto dX10_fails_29 (by decide) (k)
theorem b_X10_fails_32  (k : SW sc m_X10_fails d rc rs 33 [none, none, none] [.int 0] h P) : SW sc m_X10_fails d rc rs 32 [none, none, none] [] h P := by
  refine sw_iconst (v := 0) dX10_fails_32 (by decide) ?_
  exact (k)
theorem b_X10_fails_33 {s0 : Int32} (hz1 : narrow .boolean (.int s0) = .int s0) (hP : P (.inl (some (.int s0))) h) : SW sc m_X10_fails d rc rs 33 [none, none, none] [.int s0] h P := by
  exact sw_ret (v := (some (.int s0))) dX10_fails_33 (rt_n hz1) hP
theorem b_X10_many_0 {r0 : Nat} {fs2 : List Value} {x2 : Int32} (hc2 : (h)[r0]? = some (10, fs2)) (hv2 : fs2[9]? = some (.int x2)) (kt : x2 = 0 → SW sc m_X10_many d rc rs 14 [some (.ref r0)] [] h P) (kf : ¬ (x2 = 0) → SW sc m_X10_many d rc rs 7 [some (.ref r0)] [] h P) : SW sc m_X10_many d rc rs 0 [some (.ref r0)] [] h P := by
  refine sw_aload_n dX10_many_0 rfl ?_
  refine sw_getf dX10_many_1 lf_X10_56 hc2 hv2 ?_
  exact sw_if_eq dX10_many_4 (by decide) (fun q => (kt q)) (fun q => (kf q))
theorem b_X10_many_7 {r0 : Nat} {fs2 : List Value} {x2 : Int32} (hc2 : (h)[r0]? = some (10, fs2)) (hv2 : fs2[10]? = some (.int x2)) (k : SW sc m_X10_many d rc rs 18 [none] [.int x2] h P) : SW sc m_X10_many d rc rs 7 [some (.ref r0)] [] h P := by
  refine sw_aload_n dX10_many_7 rfl ?_
  refine sw_getf dX10_many_8 lf_X10_60 hc2 hv2 ?_
  exact sw_goto dX10_many_11 (by decide) (sw_fg [true] rfl (k))
theorem b_X10_many_14 {r0 : Nat} {fs2 : List Value} {x2 : Int32} (hc2 : (h)[r0]? = some (10, fs2)) (hv2 : fs2[6]? = some (.int x2)) (k : SW sc m_X10_many d rc rs 18 [none] [.int x2] h P) : SW sc m_X10_many d rc rs 14 [some (.ref r0)] [] h P := by
  refine sw_aload_n dX10_many_14 rfl ?_
  refine sw_getf dX10_many_15 lf_X10_35 hc2 hv2 ?_
  exact (sw_fg [true] rfl (k))
theorem b_X10_many_18 {s0 : Int32} (hP : P (.inl (some (.int s0))) h) : SW sc m_X10_many d rc rs 18 [none] [.int s0] h P := by
  exact sw_ret (v := (some (.int s0))) dX10_many_18 rt_i hP
theorem b_X10_at_0 {r0 : Nat} {l1 : Int32} {fs2 : List Value} {x2 : Int32} (hc2 : (h)[r0]? = some (10, fs2)) (hv2 : fs2[9]? = some (.int x2)) (kt : x2 = 0 → SW sc m_X10_at d rc rs 16 [some (.ref r0), some (.int l1)] [] h P) (kf : ¬ (x2 = 0) → SW sc m_X10_at d rc rs 7 [some (.ref r0), some (.int l1)] [] h P) : SW sc m_X10_at d rc rs 0 [some (.ref r0), some (.int l1)] [] h P := by
  refine sw_aload_n dX10_at_0 rfl ?_
  refine sw_getf dX10_at_1 lf_X10_56 hc2 hv2 ?_
  exact sw_if_eq dX10_at_4 (by decide) (fun q => (kt q)) (fun q => (kf q))
theorem b_X10_at_7 {r0 : Nat} {l1 : Int32} {fs2 : List Value} {a2 : Nat} {vs4 : List Value} {x4 : Int32} (hc2 : (h)[r0]? = some (10, fs2)) (hv2 : fs2[2]? = some (.ref a2)) (hc4 : (h)[a2]? = some (100, vs4)) (ho4 : ¬ l1 < 0) (hi4 : vs4[l1.toNatClampNeg]? = some (.int x4)) (k : SW sc m_X10_at d rc rs 22 [none, none] [.int x4] h P) : SW sc m_X10_at d rc rs 7 [some (.ref r0), some (.int l1)] [] h P := by
  refine sw_aload_n dX10_at_7 rfl ?_
  refine sw_getf dX10_at_8 lf_X10_23 hc2 hv2 ?_
  refine sw_iload_n dX10_at_11 rfl ?_
  refine sw_iald dX10_at_12 hc4 ho4 hi4 ?_
  exact sw_goto dX10_at_13 (by decide) (sw_fg [true, true] rfl (k))
theorem b_X10_at_16 {r0 : Nat} {l1 : Int32} {fs2 : List Value} {a2 : Nat} {vs4 : List Value} {x4 : Int32} (hc2 : (h)[r0]? = some (10, fs2)) (hv2 : fs2[1]? = some (.ref a2)) (hc4 : (h)[a2]? = some (100, vs4)) (ho4 : ¬ l1 < 0) (hi4 : vs4[l1.toNatClampNeg]? = some (.int x4)) (k : SW sc m_X10_at d rc rs 22 [none, none] [.int x4] h P) : SW sc m_X10_at d rc rs 16 [some (.ref r0), some (.int l1)] [] h P := by
  refine sw_aload_n dX10_at_16 rfl ?_
  refine sw_getf dX10_at_17 lf_X10_19 hc2 hv2 ?_
  refine sw_iload_n dX10_at_20 rfl ?_
  refine sw_iald dX10_at_21 hc4 ho4 hi4 ?_
  exact (sw_fg [true, true] rfl (k))
theorem b_X10_at_22 {s0 : Int32} (hP : P (.inl (some (.int s0))) h) : SW sc m_X10_at d rc rs 22 [none, none] [.int s0] h P := by
  exact sw_ret (v := (some (.int s0))) dX10_at_22 rt_i hP
theorem b_X10_remembers_0 {r0 : Nat} {fs2 : List Value} {x2 : Int32} (hc2 : (h)[r0]? = some (10, fs2)) (hv2 : fs2[7]? = some (.int x2)) (kt : ¬ x2 = 8 → SW sc m_X10_remembers d rc rs 50 [some (.ref r0), none] [] h P) (kf : x2 = 8 → SW sc m_X10_remembers d rc rs 9 [some (.ref r0), none] [] h P) : SW sc m_X10_remembers d rc rs 0 [some (.ref r0), none] [] h P := by
  refine sw_aload_n dX10_remembers_0 rfl ?_
  refine sw_getf dX10_remembers_1 lf_X10_63 hc2 hv2 ?_
  refine sw_bipush (v := 8) dX10_remembers_4 (by decide) ?_
  exact sw_icmp_ne dX10_remembers_6 (by decide) (fun q => (kt q)) (fun q => (kf q))
theorem b_X10_remembers_9 {r0 : Nat} (k : SW sc m_X10_remembers d rc rs 12 [some (.ref r0), some (.int 20)] [] h P) : SW sc m_X10_remembers d rc rs 9 [some (.ref r0), none] [] h P := by
  refine sw_bipush (v := 20) dX10_remembers_9 (by decide) ?_
  refine sw_istore_n dX10_remembers_11 (by decide) rfl ?_
  show SW sc m_X10_remembers _ _ _ 12 [some (.ref r0), some (.int 20)] [] h P
  exact (k)
theorem b_X10_remembers_12 {r0 : Nat} {l1 : Int32} (kt : 160 ≤ l1 → SW sc m_X10_remembers d rc rs 40 [some (.ref r0), none] [] h P) (kf : ¬ (160 ≤ l1) → SW sc m_X10_remembers d rc rs 19 [some (.ref r0), some (.int l1)] [] h P) : SW sc m_X10_remembers d rc rs 12 [some (.ref r0), some (.int l1)] [] h P := by
  refine sw_iload_n dX10_remembers_12 rfl ?_
  refine sw_sipush (v := 160) dX10_remembers_13 (by decide) ?_
  exact sw_icmp_ge dX10_remembers_16 (by decide) (fun q => (sw_fg [false, true] rfl (kt q))) (fun q => (kf q))
theorem b_X10_remembers_19 {r0 : Nat} {l1 : Int32} {fs2 : List Value} {a2 : Nat} {fs7 : List Value} {a7 : Nat} {vs9 : List Value} {x9 : Int32} {vs10 : List Value} (hc2 : (h)[r0]? = some (10, fs2)) (hv2 : fs2[3]? = some (.ref a2)) (hc7 : (h)[r0]? = some (10, fs7)) (hv7 : fs7[3]? = some (.ref a7)) (hc9 : (h)[a7]? = some (100, vs9)) (ho9 : ¬ l1 < 0) (hi9 : vs9[l1.toNatClampNeg]? = some (.int x9)) (hc10 : (h)[a2]? = some (100, vs10)) (ho10 : ¬ (l1 - 20) < 0) (hl10 : (l1 - 20).toNatClampNeg < vs10.length) (k : SW sc m_X10_remembers d rc rs 12 [some (.ref r0), some (.int (l1 + 1))] [] ((h).set a2 (100, vs10.set (l1 - 20).toNatClampNeg (.int x9))) P) : SW sc m_X10_remembers d rc rs 19 [some (.ref r0), some (.int l1)] [] h P := by
  refine sw_aload_n dX10_remembers_19 rfl ?_
  refine sw_getf dX10_remembers_20 lf_X10_26 hc2 hv2 ?_
  refine sw_iload_n dX10_remembers_23 rfl ?_
  refine sw_bipush (v := 20) dX10_remembers_24 (by decide) ?_
  refine sw_isub dX10_remembers_26 ?_
  refine sw_aload_n dX10_remembers_27 rfl ?_
  refine sw_getf dX10_remembers_28 lf_X10_26 hc7 hv7 ?_
  refine sw_iload_n dX10_remembers_31 rfl ?_
  refine sw_iald dX10_remembers_32 hc9 ho9 hi9 ?_
  refine sw_iast dX10_remembers_33 hc10 ho10 hl10 ?_
  refine sw_iinc (v := l1 + 1) dX10_remembers_34 rfl rfl (by decide) rfl ?_
  show SW sc m_X10_remembers _ _ _ 37 [some (.ref r0), some (.int (l1 + 1))] [] ((h).set a2 (100, vs10.set (l1 - 20).toNatClampNeg (.int x9))) P
  exact sw_goto dX10_remembers_37 (by decide) (k)
theorem b_X10_remembers_40 {r0 : Nat} {fs3 : List Value} {x3 : Int32} {fs6 : List Value} (hc3 : (h)[r0]? = some (10, fs3)) (hv3 : fs3[7]? = some (.int x3)) (hc6 : (h)[r0]? = some (10, fs6)) (hk6 : 7 < fs6.length) (k : SW sc m_X10_remembers d rc rs 50 [some (.ref r0), none] [] ((h).set r0 (10, fs6.set 7 (.int (x3 - 1)))) P) : SW sc m_X10_remembers d rc rs 40 [some (.ref r0), none] [] h P := by
  refine sw_aload_n dX10_remembers_40 rfl ?_
  refine sw_dup dX10_remembers_41 (fun _ _ => rfl) ?_
  refine sw_getf dX10_remembers_42 lf_X10_63 hc3 hv3 ?_
  refine sw_iconst (v := 1) dX10_remembers_45 (by decide) ?_
  refine sw_isub dX10_remembers_46 ?_
  refine sw_putf dX10_remembers_47 lp_X10_63 hc6 hk6 (fun _ _ => ⟨rfl, rfl⟩) ?_
  exact (k)
theorem b_X10_remembers_50 {r0 : Nat} (k : SW sc m_X10_remembers d rc rs 52 [some (.ref r0), some (.int 0)] [] h P) : SW sc m_X10_remembers d rc rs 50 [some (.ref r0), none] [] h P := by
  refine sw_iconst (v := 0) dX10_remembers_50 (by decide) ?_
  refine sw_istore_n dX10_remembers_51 (by decide) rfl ?_
  show SW sc m_X10_remembers _ _ _ 52 [some (.ref r0), some (.int 0)] [] h P
  exact (k)
theorem b_X10_remembers_52 {r0 : Nat} {l1 : Int32} (kt : 20 ≤ l1 → SW sc m_X10_remembers d rc rs 84 [some (.ref r0), none] [] h P) (kf : ¬ (20 ≤ l1) → SW sc m_X10_remembers d rc rs 58 [some (.ref r0), some (.int l1)] [] h P) : SW sc m_X10_remembers d rc rs 52 [some (.ref r0), some (.int l1)] [] h P := by
  refine sw_iload_n dX10_remembers_52 rfl ?_
  refine sw_bipush (v := 20) dX10_remembers_53 (by decide) ?_
  exact sw_icmp_ge dX10_remembers_55 (by decide) (fun q => (sw_fg [false, true] rfl (kt q))) (fun q => (kf q))
theorem b_X10_remembers_58 {r0 : Nat} {l1 : Int32} {fs2 : List Value} {a2 : Nat} {fs5 : List Value} {x5 : Int32} {fs10 : List Value} {a10 : Nat} {vs12 : List Value} {x12 : Int32} {vs13 : List Value} (hc2 : (h)[r0]? = some (10, fs2)) (hv2 : fs2[3]? = some (.ref a2)) (hc5 : (h)[r0]? = some (10, fs5)) (hv5 : fs5[7]? = some (.int x5)) (hc10 : (h)[r0]? = some (10, fs10)) (hv10 : fs10[1]? = some (.ref a10)) (hc12 : (h)[a10]? = some (100, vs12)) (ho12 : ¬ l1 < 0) (hi12 : vs12[l1.toNatClampNeg]? = some (.int x12)) (hc13 : (h)[a2]? = some (100, vs13)) (ho13 : ¬ ((20 * x5) + l1) < 0) (hl13 : ((20 * x5) + l1).toNatClampNeg < vs13.length) (k : SW sc m_X10_remembers d rc rs 52 [some (.ref r0), some (.int (l1 + 1))] [] ((h).set a2 (100, vs13.set ((20 * x5) + l1).toNatClampNeg (.int x12))) P) : SW sc m_X10_remembers d rc rs 58 [some (.ref r0), some (.int l1)] [] h P := by
  refine sw_aload_n dX10_remembers_58 rfl ?_
  refine sw_getf dX10_remembers_59 lf_X10_26 hc2 hv2 ?_
  refine sw_bipush (v := 20) dX10_remembers_62 (by decide) ?_
  refine sw_aload_n dX10_remembers_64 rfl ?_
  refine sw_getf dX10_remembers_65 lf_X10_63 hc5 hv5 ?_
  refine sw_imul dX10_remembers_68 ?_
  refine sw_iload_n dX10_remembers_69 rfl ?_
  refine sw_iadd dX10_remembers_70 ?_
  refine sw_aload_n dX10_remembers_71 rfl ?_
  refine sw_getf dX10_remembers_72 lf_X10_19 hc10 hv10 ?_
  refine sw_iload_n dX10_remembers_75 rfl ?_
  refine sw_iald dX10_remembers_76 hc12 ho12 hi12 ?_
  refine sw_iast dX10_remembers_77 hc13 ho13 hl13 ?_
  refine sw_iinc (v := l1 + 1) dX10_remembers_78 rfl rfl (by decide) rfl ?_
  show SW sc m_X10_remembers _ _ _ 81 [some (.ref r0), some (.int (l1 + 1))] [] ((h).set a2 (100, vs13.set ((20 * x5) + l1).toNatClampNeg (.int x12))) P
  exact sw_goto dX10_remembers_81 (by decide) (k)
theorem b_X10_remembers_84 {r0 : Nat} {fs3 : List Value} {x3 : Int32} {fs6 : List Value} (hc3 : (h)[r0]? = some (10, fs3)) (hv3 : fs3[7]? = some (.int x3)) (hc6 : (h)[r0]? = some (10, fs6)) (hk6 : 7 < fs6.length) (hP : P (.inl none) ((h).set r0 (10, fs6.set 7 (.int (x3 + 1))))) : SW sc m_X10_remembers d rc rs 84 [some (.ref r0), none] [] h P := by
  refine sw_aload_n dX10_remembers_84 rfl ?_
  refine sw_dup dX10_remembers_85 (fun _ _ => rfl) ?_
  refine sw_getf dX10_remembers_86 lf_X10_63 hc3 hv3 ?_
  refine sw_iconst (v := 1) dX10_remembers_89 (by decide) ?_
  refine sw_iadd dX10_remembers_90 ?_
  refine sw_putf dX10_remembers_91 lp_X10_63 hc6 hk6 (fun _ _ => ⟨rfl, rfl⟩) ?_
  exact sw_ret (v := none) dX10_remembers_94 rt_v hP
theorem b_X10_undo_0 {r0 : Nat} {fs3 : List Value} {fs5 : List Value} {x5 : Int32} (hc3 : (h)[r0]? = some (10, fs3)) (hk3 : 0 < fs3.length) (hc5 : ((h).set r0 (10, fs3.set 0 (.int 0)))[r0]? = some (10, fs5)) (hv5 : fs5[7]? = some (.int x5)) (kt : ¬ x5 = 0 → SW sc m_X10_undo d rc rs 14 [some (.ref r0), none] [] ((h).set r0 (10, fs3.set 0 (.int 0))) P) (kf : x5 = 0 → SW sc m_X10_undo d rc rs 12 [none, none] [] ((h).set r0 (10, fs3.set 0 (.int 0))) P) : SW sc m_X10_undo d rc rs 0 [some (.ref r0), none] [] h P := by
  refine sw_aload_n dX10_undo_0 rfl ?_
  refine sw_iconst (v := 0) dX10_undo_1 (by decide) ?_
  refine sw_putf dX10_undo_2 lp_X10_1 hc3 hk3 (fun _ _ => ⟨rfl, rfl⟩) ?_
  refine sw_aload_n dX10_undo_5 rfl ?_
  refine sw_getf dX10_undo_6 lf_X10_63 hc5 hv5 ?_
  exact sw_if_ne dX10_undo_9 (by decide) (fun q => (kt q)) (fun q => (sw_fg [true, false] rfl (kf q)))
theorem b_X10_undo_12  (hP : P (.inl (some (.int (-1)))) h) : SW sc m_X10_undo d rc rs 12 [none, none] [] h P := by
  refine sw_iconst (v := (-1)) dX10_undo_12 (by decide) ?_
  exact sw_ret (v := (some (.int (-1)))) dX10_undo_13 rt_i hP
theorem b_X10_undo_14 {r0 : Nat} {fs3 : List Value} {x3 : Int32} {fs6 : List Value} (hc3 : (h)[r0]? = some (10, fs3)) (hv3 : fs3[7]? = some (.int x3)) (hc6 : (h)[r0]? = some (10, fs6)) (hk6 : 7 < fs6.length) (k : SW sc m_X10_undo d rc rs 26 [some (.ref r0), some (.int 0)] [] ((h).set r0 (10, fs6.set 7 (.int (x3 - 1)))) P) : SW sc m_X10_undo d rc rs 14 [some (.ref r0), none] [] h P := by
  refine sw_aload_n dX10_undo_14 rfl ?_
  refine sw_dup dX10_undo_15 (fun _ _ => rfl) ?_
  refine sw_getf dX10_undo_16 lf_X10_63 hc3 hv3 ?_
  refine sw_iconst (v := 1) dX10_undo_19 (by decide) ?_
  refine sw_isub dX10_undo_20 ?_
  refine sw_putf dX10_undo_21 lp_X10_63 hc6 hk6 (fun _ _ => ⟨rfl, rfl⟩) ?_
  refine sw_iconst (v := 0) dX10_undo_24 (by decide) ?_
  refine sw_istore_n dX10_undo_25 (by decide) rfl ?_
  show SW sc m_X10_undo _ _ _ 26 [some (.ref r0), some (.int 0)] [] ((h).set r0 (10, fs6.set 7 (.int (x3 - 1)))) P
  exact (k)
theorem b_X10_undo_26 {r0 : Nat} {l1 : Int32} (kt : 20 ≤ l1 → SW sc m_X10_undo d rc rs 58 [some (.ref r0), none] [] h P) (kf : ¬ (20 ≤ l1) → SW sc m_X10_undo d rc rs 32 [some (.ref r0), some (.int l1)] [] h P) : SW sc m_X10_undo d rc rs 26 [some (.ref r0), some (.int l1)] [] h P := by
  refine sw_iload_n dX10_undo_26 rfl ?_
  refine sw_bipush (v := 20) dX10_undo_27 (by decide) ?_
  exact sw_icmp_ge dX10_undo_29 (by decide) (fun q => (sw_fg [false, true] rfl (kt q))) (fun q => (kf q))
theorem b_X10_undo_32 {r0 : Nat} {l1 : Int32} {fs2 : List Value} {a2 : Nat} {fs5 : List Value} {a5 : Nat} {fs8 : List Value} {x8 : Int32} {vs12 : List Value} {x12 : Int32} {vs13 : List Value} (hc2 : (h)[r0]? = some (10, fs2)) (hv2 : fs2[1]? = some (.ref a2)) (hc5 : (h)[r0]? = some (10, fs5)) (hv5 : fs5[3]? = some (.ref a5)) (hc8 : (h)[r0]? = some (10, fs8)) (hv8 : fs8[7]? = some (.int x8)) (hc12 : (h)[a5]? = some (100, vs12)) (ho12 : ¬ ((20 * x8) + l1) < 0) (hi12 : vs12[((20 * x8) + l1).toNatClampNeg]? = some (.int x12)) (hc13 : (h)[a2]? = some (100, vs13)) (ho13 : ¬ l1 < 0) (hl13 : l1.toNatClampNeg < vs13.length) (k : SW sc m_X10_undo d rc rs 26 [some (.ref r0), some (.int (l1 + 1))] [] ((h).set a2 (100, vs13.set l1.toNatClampNeg (.int x12))) P) : SW sc m_X10_undo d rc rs 32 [some (.ref r0), some (.int l1)] [] h P := by
  refine sw_aload_n dX10_undo_32 rfl ?_
  refine sw_getf dX10_undo_33 lf_X10_19 hc2 hv2 ?_
  refine sw_iload_n dX10_undo_36 rfl ?_
  refine sw_aload_n dX10_undo_37 rfl ?_
  refine sw_getf dX10_undo_38 lf_X10_26 hc5 hv5 ?_
  refine sw_bipush (v := 20) dX10_undo_41 (by decide) ?_
  refine sw_aload_n dX10_undo_43 rfl ?_
  refine sw_getf dX10_undo_44 lf_X10_63 hc8 hv8 ?_
  refine sw_imul dX10_undo_47 ?_
  refine sw_iload_n dX10_undo_48 rfl ?_
  refine sw_iadd dX10_undo_49 ?_
  refine sw_iald dX10_undo_50 hc12 ho12 hi12 ?_
  refine sw_iast dX10_undo_51 hc13 ho13 hl13 ?_
  refine sw_iinc (v := l1 + 1) dX10_undo_52 rfl rfl (by decide) rfl ?_
  show SW sc m_X10_undo _ _ _ 55 [some (.ref r0), some (.int (l1 + 1))] [] ((h).set a2 (100, vs13.set l1.toNatClampNeg (.int x12))) P
  exact sw_goto dX10_undo_55 (by decide) (k)
theorem b_X10_undo_58 {r0 : Nat} {fs2 : List Value} {x2 : Int32} (hc2 : (h)[r0]? = some (10, fs2)) (hv2 : fs2[7]? = some (.int x2)) (hP : P (.inl (some (.int x2))) h) : SW sc m_X10_undo d rc rs 58 [some (.ref r0), none] [] h P := by
  refine sw_aload_n dX10_undo_58 rfl ?_
  refine sw_getf dX10_undo_59 lf_X10_63 hc2 hv2 ?_
  exact sw_ret (v := (some (.int x2))) dX10_undo_62 rt_i hP
theorem b_X10_joins_0 {r0 : Nat} {l1 : Int32} {l2 : Int32} {vs4 : List Value} {x4 : Int32} {vs9 : List Value} {vs13 : List Value} {x13 : Int32} {vs18 : List Value} (hc4 : (h)[r0]? = some (100, vs4)) (ho4 : ¬ l1 < 0) (hi4 : vs4[l1.toNatClampNeg]? = some (.int x4)) (hc9 : (h)[r0]? = some (100, vs9)) (ho9 : ¬ l1 < 0) (hl9 : l1.toNatClampNeg < vs9.length) (hc13 : ((h).set r0 (100, vs9.set l1.toNatClampNeg (.int (x4 ||| (1 <<< (l2 &&& 31))))))[r0]? = some (100, vs13)) (ho13 : ¬ l2 < 0) (hi13 : vs13[l2.toNatClampNeg]? = some (.int x13)) (hc18 : ((h).set r0 (100, vs9.set l1.toNatClampNeg (.int (x4 ||| (1 <<< (l2 &&& 31))))))[r0]? = some (100, vs18)) (ho18 : ¬ l2 < 0) (hl18 : l2.toNatClampNeg < vs18.length) (hP : P (.inl none) (((h).set r0 (100, vs9.set l1.toNatClampNeg (.int (x4 ||| (1 <<< (l2 &&& 31)))))).set r0 (100, vs18.set l2.toNatClampNeg (.int (x13 ||| (1 <<< (l1 &&& 31))))))) : SW sc m_X10_joins d rc rs 0 [some (.ref r0), some (.int l1), some (.int l2)] [] h P := by
  refine sw_aload_n dX10_joins_0 rfl ?_
  refine sw_iload_n dX10_joins_1 rfl ?_
  refine sw_dup2 dX10_joins_2 (fun _ _ => rfl) (fun _ _ => rfl) ?_
  refine sw_iald dX10_joins_3 hc4 ho4 hi4 ?_
  refine sw_iconst (v := 1) dX10_joins_4 (by decide) ?_
  refine sw_iload_n dX10_joins_5 rfl ?_
  refine sw_ishl dX10_joins_6 ?_
  refine sw_ior dX10_joins_7 ?_
  refine sw_iast dX10_joins_8 hc9 ho9 hl9 ?_
  refine sw_aload_n dX10_joins_9 rfl ?_
  refine sw_iload_n dX10_joins_10 rfl ?_
  refine sw_dup2 dX10_joins_11 (fun _ _ => rfl) (fun _ _ => rfl) ?_
  refine sw_iald dX10_joins_12 hc13 ho13 hi13 ?_
  refine sw_iconst (v := 1) dX10_joins_13 (by decide) ?_
  refine sw_iload_n dX10_joins_14 rfl ?_
  refine sw_ishl dX10_joins_15 ?_
  refine sw_ior dX10_joins_16 ?_
  refine sw_iast dX10_joins_17 hc18 ho18 hl18 ?_
  exact sw_ret (v := none) dX10_joins_18 rt_v hP
theorem b_X10_parts_0 {r0 : Nat} {l1 : Int32} {l2 : Int32} {vs4 : List Value} {x4 : Int32} {vs11 : List Value} {vs15 : List Value} {x15 : Int32} {vs22 : List Value} (hc4 : (h)[r0]? = some (100, vs4)) (ho4 : ¬ l1 < 0) (hi4 : vs4[l1.toNatClampNeg]? = some (.int x4)) (hc11 : (h)[r0]? = some (100, vs11)) (ho11 : ¬ l1 < 0) (hl11 : l1.toNatClampNeg < vs11.length) (hc15 : ((h).set r0 (100, vs11.set l1.toNatClampNeg (.int (x4 &&& ((1 <<< (l2 &&& 31)) ^^^ (-1))))))[r0]? = some (100, vs15)) (ho15 : ¬ l2 < 0) (hi15 : vs15[l2.toNatClampNeg]? = some (.int x15)) (hc22 : ((h).set r0 (100, vs11.set l1.toNatClampNeg (.int (x4 &&& ((1 <<< (l2 &&& 31)) ^^^ (-1))))))[r0]? = some (100, vs22)) (ho22 : ¬ l2 < 0) (hl22 : l2.toNatClampNeg < vs22.length) (hP : P (.inl none) (((h).set r0 (100, vs11.set l1.toNatClampNeg (.int (x4 &&& ((1 <<< (l2 &&& 31)) ^^^ (-1)))))).set r0 (100, vs22.set l2.toNatClampNeg (.int (x15 &&& ((1 <<< (l1 &&& 31)) ^^^ (-1))))))) : SW sc m_X10_parts d rc rs 0 [some (.ref r0), some (.int l1), some (.int l2)] [] h P := by
  refine sw_aload_n dX10_parts_0 rfl ?_
  refine sw_iload_n dX10_parts_1 rfl ?_
  refine sw_dup2 dX10_parts_2 (fun _ _ => rfl) (fun _ _ => rfl) ?_
  refine sw_iald dX10_parts_3 hc4 ho4 hi4 ?_
  refine sw_iconst (v := 1) dX10_parts_4 (by decide) ?_
  refine sw_iload_n dX10_parts_5 rfl ?_
  refine sw_ishl dX10_parts_6 ?_
  refine sw_iconst (v := (-1)) dX10_parts_7 (by decide) ?_
  refine sw_ixor dX10_parts_8 ?_
  refine sw_iand dX10_parts_9 ?_
  refine sw_iast dX10_parts_10 hc11 ho11 hl11 ?_
  refine sw_aload_n dX10_parts_11 rfl ?_
  refine sw_iload_n dX10_parts_12 rfl ?_
  refine sw_dup2 dX10_parts_13 (fun _ _ => rfl) (fun _ _ => rfl) ?_
  refine sw_iald dX10_parts_14 hc15 ho15 hi15 ?_
  refine sw_iconst (v := 1) dX10_parts_15 (by decide) ?_
  refine sw_iload_n dX10_parts_16 rfl ?_
  refine sw_ishl dX10_parts_17 ?_
  refine sw_iconst (v := (-1)) dX10_parts_18 (by decide) ?_
  refine sw_ixor dX10_parts_19 ?_
  refine sw_iand dX10_parts_20 ?_
  refine sw_iast dX10_parts_21 hc22 ho22 hl22 ?_
  exact sw_ret (v := none) dX10_parts_22 rt_v hP
theorem b_X10_reach_0 {r0 : Nat} {l1 : Int32} {l2 : Int32} (k : SW sc m_X10_reach d rc rs 7 [some (.ref r0), none, some (.int l2), some (.int (1 <<< (l1 &&& 31))), some (.int 0), none] [] h P) : SW sc m_X10_reach d rc rs 0 [some (.ref r0), some (.int l1), some (.int l2), none, none, none] [] h P := by
  refine sw_iconst (v := 1) dX10_reach_0 (by decide) ?_
  refine sw_iload_n dX10_reach_1 rfl ?_
  refine sw_ishl dX10_reach_2 ?_
  refine sw_istore_n dX10_reach_3 (by decide) rfl ?_
  show SW sc m_X10_reach _ _ _ 4 [some (.ref r0), some (.int l1), some (.int l2), some (.int (1 <<< (l1 &&& 31))), none, none] [] h P
  refine sw_iconst (v := 0) dX10_reach_4 (by decide) ?_
  refine sw_istore dX10_reach_5 (by decide) rfl ?_
  show SW sc m_X10_reach _ _ _ 7 [some (.ref r0), some (.int l1), some (.int l2), some (.int (1 <<< (l1 &&& 31))), some (.int 0), none] [] h P
  exact (sw_fg [false, true, false, false, false, false] rfl (k))
theorem b_X10_reach_7 {r0 : Nat} {l2 : Int32} {l3 : Int32} {l4 : Int32} (kt : l3 = l4 → SW sc m_X10_reach d rc rs 71 [none, none, none, some (.int l3), none, none] [] h P) (kf : ¬ (l3 = l4) → SW sc m_X10_reach d rc rs 13 [some (.ref r0), none, some (.int l2), some (.int l3), none, none] [] h P) : SW sc m_X10_reach d rc rs 7 [some (.ref r0), none, some (.int l2), some (.int l3), some (.int l4), none] [] h P := by
  refine sw_iload_n dX10_reach_7 rfl ?_
  refine sw_iload dX10_reach_8 rfl ?_
  exact sw_icmp_eq dX10_reach_10 (by decide) (fun q => (sw_fg [true, false, true, false, true, false] rfl (kt q))) (fun q => (sw_fg [false, false, false, false, true, false] rfl (kf q)))
theorem b_X10_reach_13 {r0 : Nat} {l2 : Int32} {l3 : Int32} (k : SW sc m_X10_reach d rc rs 19 [some (.ref r0), none, some (.int l2), some (.int l3), some (.int l3), some (.int 0)] [] h P) : SW sc m_X10_reach d rc rs 13 [some (.ref r0), none, some (.int l2), some (.int l3), none, none] [] h P := by
  refine sw_iload_n dX10_reach_13 rfl ?_
  refine sw_istore dX10_reach_14 (by decide) rfl ?_
  show SW sc m_X10_reach _ _ _ 16 [some (.ref r0), none, some (.int l2), some (.int l3), some (.int l3), none] [] h P
  refine sw_iconst (v := 0) dX10_reach_16 (by decide) ?_
  refine sw_istore dX10_reach_17 (by decide) rfl ?_
  show SW sc m_X10_reach _ _ _ 19 [some (.ref r0), none, some (.int l2), some (.int l3), some (.int l3), some (.int 0)] [] h P
  exact (k)
theorem b_X10_reach_19 {r0 : Nat} {l2 : Int32} {l3 : Int32} {l4 : Int32} {l5 : Int32} {v3 : Int32} {g3 : ab_H} {fs3 : List Value} (hr3 : (h)[r0]? = some (10, fs3)) (hm3 : MSE m_X10_many d [.ref r0] h (some (.int v3)) g3) (kt : v3 ≤ l5 → SW sc m_X10_reach (d + 1) rc rs 68 [some (.ref r0), none, some (.int l2), some (.int l3), some (.int l4), none] [] g3 P) (kf : ¬ (v3 ≤ l5) → SW sc m_X10_reach (d + 1) rc rs 28 [some (.ref r0), none, some (.int l2), some (.int l3), some (.int l4), some (.int l5)] [] g3 P) : SW sc m_X10_reach (d + 1) rc rs 19 [some (.ref r0), none, some (.int l2), some (.int l3), some (.int l4), some (.int l5)] [] h P := by
  refine sw_iload dX10_reach_19 rfl ?_
  refine sw_aload_n dX10_reach_21 rfl ?_
  refine sw_cV dX10_reach_22 lv_X10_66 hm3 hr3 rfl (by decide) rfl rfl rfl (Nat.le_of_ble_eq_true rfl) (fun _ _ => rfl) rfl ?_
  show SW sc m_X10_reach _ _ _ 25 [some (.ref r0), none, some (.int l2), some (.int l3), some (.int l4), some (.int l5)] [.int v3, .int l5] g3 P
  exact sw_icmp_ge dX10_reach_25 (by decide) (fun q => (sw_fg [false, false, false, false, false, true] rfl (kt q))) (fun q => (kf q))
theorem b_X10_reach_28 {r0 : Nat} {l2 : Int32} {l3 : Int32} {l4 : Int32} {l5 : Int32} {v3 : Int32} {g3 : ab_H} (hm3 : MSE m_X10_has d [.int l4, .int l5] h (some (.int v3)) g3) (kt : v3 = 0 → SW sc m_X10_reach (d + 1) rc rs 62 [some (.ref r0), none, some (.int l2), some (.int l3), some (.int l4), some (.int l5)] [] g3 P) (kf : ¬ (v3 = 0) → SW sc m_X10_reach (d + 1) rc rs 38 [some (.ref r0), none, some (.int l2), some (.int l3), some (.int l4), some (.int l5)] [] g3 P) : SW sc m_X10_reach (d + 1) rc rs 28 [some (.ref r0), none, some (.int l2), some (.int l3), some (.int l4), some (.int l5)] [] h P := by
  refine sw_iload dX10_reach_28 rfl ?_
  refine sw_iload dX10_reach_30 rfl ?_
  refine sw_cS dX10_reach_32 ls_X10_70 hm3 rfl rfl (Nat.le_of_ble_eq_true rfl) (fun _ _ => rfl) rfl ?_
  show SW sc m_X10_reach _ _ _ 35 [some (.ref r0), none, some (.int l2), some (.int l3), some (.int l4), some (.int l5)] [.int v3] g3 P
  exact sw_if_eq dX10_reach_35 (by decide) (fun q => (kt q)) (fun q => (kf q))
theorem b_X10_reach_38 {r0 : Nat} {l2 : Int32} {l3 : Int32} {l4 : Int32} {l5 : Int32} {v4 : Int32} {g4 : ab_H} {fs4 : List Value} (hr4 : (h)[r0]? = some (10, fs4)) (hm4 : MSE m_X10_at d [.ref r0, .int l5] h (some (.int v4)) g4) (kt : ¬ l2 = (-1) → SW sc m_X10_reach (d + 1) rc rs 54 [some (.ref r0), none, some (.int l2), none, some (.int l4), some (.int l5)] [.int v4, .int l3] g4 P) (kf : l2 = (-1) → SW sc m_X10_reach (d + 1) rc rs 50 [some (.ref r0), none, some (.int l2), none, some (.int l4), some (.int l5)] [.int v4, .int l3] g4 P) : SW sc m_X10_reach (d + 1) rc rs 38 [some (.ref r0), none, some (.int l2), some (.int l3), some (.int l4), some (.int l5)] [] h P := by
  refine sw_iload_n dX10_reach_38 rfl ?_
  refine sw_aload_n dX10_reach_39 rfl ?_
  refine sw_iload dX10_reach_40 rfl ?_
  refine sw_cV dX10_reach_42 lv_X10_74 hm4 hr4 rfl (by decide) rfl rfl rfl (Nat.le_of_ble_eq_true rfl) (fun _ _ => rfl) rfl ?_
  show SW sc m_X10_reach _ _ _ 45 [some (.ref r0), none, some (.int l2), some (.int l3), some (.int l4), some (.int l5)] [.int v4, .int l3] g4 P
  refine sw_iload_n dX10_reach_45 rfl ?_
  refine sw_iconst (v := (-1)) dX10_reach_46 (by decide) ?_
  exact sw_icmp_ne dX10_reach_47 (by decide) (fun q => (sw_fg [false, false, false, true, false, false] rfl (kt q))) (fun q => (sw_fg [false, false, false, true, false, false] rfl (kf q)))
theorem b_X10_reach_50 {r0 : Nat} {l2 : Int32} {l4 : Int32} {l5 : Int32} {s0 : Int32} {s1 : Int32} (k : SW sc m_X10_reach d rc rs 59 [some (.ref r0), none, some (.int l2), none, some (.int l4), some (.int l5)] [.int (-1), .int s1, .int s0] h P) : SW sc m_X10_reach d rc rs 50 [some (.ref r0), none, some (.int l2), none, some (.int l4), some (.int l5)] [.int s1, .int s0] h P := by
  refine sw_iconst (v := (-1)) dX10_reach_50 (by decide) ?_
  exact sw_goto dX10_reach_51 (by decide) (k)
theorem b_X10_reach_54 {r0 : Nat} {l2 : Int32} {l4 : Int32} {l5 : Int32} {s0 : Int32} {s1 : Int32} (k : SW sc m_X10_reach d rc rs 59 [some (.ref r0), none, some (.int l2), none, some (.int l4), some (.int l5)] [.int ((1 <<< (l2 &&& 31)) ^^^ (-1)), .int s1, .int s0] h P) : SW sc m_X10_reach d rc rs 54 [some (.ref r0), none, some (.int l2), none, some (.int l4), some (.int l5)] [.int s1, .int s0] h P := by
  refine sw_iconst (v := 1) dX10_reach_54 (by decide) ?_
  refine sw_iload_n dX10_reach_55 rfl ?_
  refine sw_ishl dX10_reach_56 ?_
  refine sw_iconst (v := (-1)) dX10_reach_57 (by decide) ?_
  refine sw_ixor dX10_reach_58 ?_
  exact (k)
theorem b_X10_reach_59 {r0 : Nat} {l2 : Int32} {l4 : Int32} {l5 : Int32} {s0 : Int32} {s1 : Int32} {s2 : Int32} (k : SW sc m_X10_reach d rc rs 62 [some (.ref r0), none, some (.int l2), some (.int (s0 ||| (s1 &&& s2))), some (.int l4), some (.int l5)] [] h P) : SW sc m_X10_reach d rc rs 59 [some (.ref r0), none, some (.int l2), none, some (.int l4), some (.int l5)] [.int s2, .int s1, .int s0] h P := by
  refine sw_iand dX10_reach_59 ?_
  refine sw_ior dX10_reach_60 ?_
  refine sw_istore_n dX10_reach_61 (by decide) rfl ?_
  show SW sc m_X10_reach _ _ _ 62 [some (.ref r0), none, some (.int l2), some (.int (s0 ||| (s1 &&& s2))), some (.int l4), some (.int l5)] [] h P
  exact (k)
theorem b_X10_reach_62 {r0 : Nat} {l2 : Int32} {l3 : Int32} {l4 : Int32} {l5 : Int32} (k : SW sc m_X10_reach d rc rs 19 [some (.ref r0), none, some (.int l2), some (.int l3), some (.int l4), some (.int (l5 + 1))] [] h P) : SW sc m_X10_reach d rc rs 62 [some (.ref r0), none, some (.int l2), some (.int l3), some (.int l4), some (.int l5)] [] h P := by
  refine sw_iinc (v := l5 + 1) dX10_reach_62 rfl rfl (by decide) rfl ?_
  show SW sc m_X10_reach _ _ _ 65 [some (.ref r0), none, some (.int l2), some (.int l3), some (.int l4), some (.int (l5 + 1))] [] h P
  exact sw_goto dX10_reach_65 (by decide) (k)
theorem b_X10_reach_68 {r0 : Nat} {l2 : Int32} {l3 : Int32} {l4 : Int32} (k : SW sc m_X10_reach d rc rs 7 [some (.ref r0), none, some (.int l2), some (.int l3), some (.int l4), none] [] h P) : SW sc m_X10_reach d rc rs 68 [some (.ref r0), none, some (.int l2), some (.int l3), some (.int l4), none] [] h P := by
  exact sw_goto dX10_reach_68 (by decide) (k)
theorem b_X10_reach_71 {l3 : Int32} (hP : P (.inl (some (.int l3))) h) : SW sc m_X10_reach d rc rs 71 [none, none, none, some (.int l3), none, none] [] h P := by
  refine sw_iload_n dX10_reach_71 rfl ?_
  exact sw_ret (v := (some (.int l3))) dX10_reach_72 rt_i hP
theorem b_X10_component_0 {r0 : Nat} {l1 : Int32} {v4 : Int32} {g4 : ab_H} {fs4 : List Value} (hr4 : (h)[r0]? = some (10, fs4)) (hm4 : MSE m_X10_reach d [.ref r0, .int l1, .int (-1)] h (some (.int v4)) g4) (hP : P (.inl (some (.int v4))) g4) : SW sc m_X10_component (d + 1) rc rs 0 [some (.ref r0), some (.int l1)] [] h P := by
  refine sw_aload_n dX10_component_0 rfl ?_
  refine sw_iload_n dX10_component_1 rfl ?_
  refine sw_iconst (v := (-1)) dX10_component_2 (by decide) ?_
  refine sw_cV dX10_component_3 lv_X10_77 hm4 hr4 rfl (by decide) rfl rfl rfl (Nat.le_of_ble_eq_true rfl) (fun _ _ => rfl) rfl ?_
  show SW sc m_X10_component _ _ _ 6 [some (.ref r0), some (.int l1)] [.int v4] g4 P
  exact sw_ret (v := (some (.int v4))) dX10_component_6 rt_i hP
theorem b_X10_lowest_0 {l0 : Int32} {v2 : Int32} {g2 : ab_H} (hm2 : MSE m_J6_numberOfTrailingZeros_0f7a4 d [.int l0] h (some (.int v2)) g2) (hP : P (.inl (some (.int v2))) g2) : SW sc m_X10_lowest (d + 1) rc rs 0 [some (.int l0)] [] h P := by
  refine sw_iload_n dX10_lowest_0 rfl ?_
  refine sw_cS dX10_lowest_1 ls_X10_81 hm2 rfl rfl (Nat.le_of_ble_eq_true rfl) (fun _ _ => rfl) rfl ?_
  show SW sc m_X10_lowest _ _ _ 4 [some (.int l0)] [.int v2] g2 P
  exact sw_ret (v := (some (.int v2))) dX10_lowest_4 rt_i hP
theorem b_X10_componentMany_0 {r0 : Nat} (k : SW sc m_X10_componentMany d rc rs 4 [some (.ref r0), some (.int 0), some (.int 0)] [] h P) : SW sc m_X10_componentMany d rc rs 0 [some (.ref r0), none, none] [] h P := by
  refine sw_iconst (v := 0) dX10_componentMany_0 (by decide) ?_
  refine sw_istore_n dX10_componentMany_1 (by decide) rfl ?_
  show SW sc m_X10_componentMany _ _ _ 2 [some (.ref r0), some (.int 0), none] [] h P
  refine sw_iconst (v := 0) dX10_componentMany_2 (by decide) ?_
  refine sw_istore_n dX10_componentMany_3 (by decide) rfl ?_
  show SW sc m_X10_componentMany _ _ _ 4 [some (.ref r0), some (.int 0), some (.int 0)] [] h P
  exact (k)
theorem b_X10_componentMany_4 {r0 : Nat} {l1 : Int32} {l2 : Int32} {v3 : Int32} {g3 : ab_H} {fs3 : List Value} (hr3 : (h)[r0]? = some (10, fs3)) (hm3 : MSE m_X10_many d [.ref r0] h (some (.int v3)) g3) (kt : v3 ≤ l2 → SW sc m_X10_componentMany (d + 1) rc rs 38 [none, some (.int l1), none] [] g3 P) (kf : ¬ (v3 ≤ l2) → SW sc m_X10_componentMany (d + 1) rc rs 12 [some (.ref r0), some (.int l1), some (.int l2)] [] g3 P) : SW sc m_X10_componentMany (d + 1) rc rs 4 [some (.ref r0), some (.int l1), some (.int l2)] [] h P := by
  refine sw_iload_n dX10_componentMany_4 rfl ?_
  refine sw_aload_n dX10_componentMany_5 rfl ?_
  refine sw_cV dX10_componentMany_6 lv_X10_66 hm3 hr3 rfl (by decide) rfl rfl rfl (Nat.le_of_ble_eq_true rfl) (fun _ _ => rfl) rfl ?_
  show SW sc m_X10_componentMany _ _ _ 9 [some (.ref r0), some (.int l1), some (.int l2)] [.int v3, .int l2] g3 P
  exact sw_icmp_ge dX10_componentMany_9 (by decide) (fun q => (sw_fg [true, false, true] rfl (kt q))) (fun q => (kf q))
theorem b_X10_componentMany_12 {r0 : Nat} {l1 : Int32} {l2 : Int32} {v4 : Int32} {g4 : ab_H} {fs4 : List Value} {v5 : Int32} {g5 : ab_H} (hr4 : (h)[r0]? = some (10, fs4)) (hm4 : MSE m_X10_component d [.ref r0, .int l2] h (some (.int v4)) g4) (hm5 : MSE m_X10_lowest d [.int v4] g4 (some (.int v5)) g5) (kt : ¬ v5 = l2 → SW sc m_X10_componentMany (d + 1) rc rs 29 [some (.ref r0), none, some (.int l2)] [.int l1] g5 P) (kf : v5 = l2 → SW sc m_X10_componentMany (d + 1) rc rs 25 [some (.ref r0), none, some (.int l2)] [.int l1] g5 P) : SW sc m_X10_componentMany (d + 1) rc rs 12 [some (.ref r0), some (.int l1), some (.int l2)] [] h P := by
  refine sw_iload_n dX10_componentMany_12 rfl ?_
  refine sw_aload_n dX10_componentMany_13 rfl ?_
  refine sw_iload_n dX10_componentMany_14 rfl ?_
  refine sw_cV dX10_componentMany_15 lv_X10_84 hm4 hr4 rfl (by decide) rfl rfl rfl (Nat.le_of_ble_eq_true rfl) (fun _ _ => rfl) rfl ?_
  show SW sc m_X10_componentMany _ _ _ 18 [some (.ref r0), some (.int l1), some (.int l2)] [.int v4, .int l1] g4 P
  refine sw_cS dX10_componentMany_18 ls_X10_87 hm5 rfl rfl (Nat.le_of_ble_eq_true rfl) (fun _ _ => rfl) rfl ?_
  show SW sc m_X10_componentMany _ _ _ 21 [some (.ref r0), some (.int l1), some (.int l2)] [.int v5, .int l1] g5 P
  refine sw_iload_n dX10_componentMany_21 rfl ?_
  exact sw_icmp_ne dX10_componentMany_22 (by decide) (fun q => (sw_fg [false, true, false] rfl (kt q))) (fun q => (sw_fg [false, true, false] rfl (kf q)))
theorem b_X10_componentMany_25 {r0 : Nat} {l2 : Int32} {s0 : Int32} (k : SW sc m_X10_componentMany d rc rs 30 [some (.ref r0), none, some (.int l2)] [.int 1, .int s0] h P) : SW sc m_X10_componentMany d rc rs 25 [some (.ref r0), none, some (.int l2)] [.int s0] h P := by
  refine sw_iconst (v := 1) dX10_componentMany_25 (by decide) ?_
  exact sw_goto dX10_componentMany_26 (by decide) (k)
theorem b_X10_componentMany_29 {r0 : Nat} {l2 : Int32} {s0 : Int32} (k : SW sc m_X10_componentMany d rc rs 30 [some (.ref r0), none, some (.int l2)] [.int 0, .int s0] h P) : SW sc m_X10_componentMany d rc rs 29 [some (.ref r0), none, some (.int l2)] [.int s0] h P := by
  refine sw_iconst (v := 0) dX10_componentMany_29 (by decide) ?_
  exact (k)
theorem b_X10_componentMany_30 {r0 : Nat} {l2 : Int32} {s0 : Int32} {s1 : Int32} (k : SW sc m_X10_componentMany d rc rs 4 [some (.ref r0), some (.int (s0 + s1)), some (.int (l2 + 1))] [] h P) : SW sc m_X10_componentMany d rc rs 30 [some (.ref r0), none, some (.int l2)] [.int s1, .int s0] h P := by
  refine sw_iadd dX10_componentMany_30 ?_
  refine sw_istore_n dX10_componentMany_31 (by decide) rfl ?_
  show SW sc m_X10_componentMany _ _ _ 32 [some (.ref r0), some (.int (s0 + s1)), some (.int l2)] [] h P
  refine sw_iinc (v := l2 + 1) dX10_componentMany_32 rfl rfl (by decide) rfl ?_
  show SW sc m_X10_componentMany _ _ _ 35 [some (.ref r0), some (.int (s0 + s1)), some (.int (l2 + 1))] [] h P
  exact sw_goto dX10_componentMany_35 (by decide) (k)
theorem b_X10_componentMany_38 {l1 : Int32} (hP : P (.inl (some (.int l1))) h) : SW sc m_X10_componentMany d rc rs 38 [none, some (.int l1), none] [] h P := by
  refine sw_iload_n dX10_componentMany_38 rfl ?_
  exact sw_ret (v := (some (.int l1))) dX10_componentMany_39 rt_i hP
theorem b_X10_componentAt_0 {r0 : Nat} {l1 : Int32} (k : SW sc m_X10_componentAt d rc rs 4 [some (.ref r0), none, some (.int l1), some (.int 0), none] [] h P) : SW sc m_X10_componentAt d rc rs 0 [some (.ref r0), some (.int l1), none, none, none] [] h P := by
  refine sw_iload_n dX10_componentAt_0 rfl ?_
  refine sw_istore_n dX10_componentAt_1 (by decide) rfl ?_
  show SW sc m_X10_componentAt _ _ _ 2 [some (.ref r0), some (.int l1), some (.int l1), none, none] [] h P
  refine sw_iconst (v := 0) dX10_componentAt_2 (by decide) ?_
  refine sw_istore_n dX10_componentAt_3 (by decide) rfl ?_
  show SW sc m_X10_componentAt _ _ _ 4 [some (.ref r0), some (.int l1), some (.int l1), some (.int 0), none] [] h P
  exact (sw_fg [false, true, false, false, false] rfl (k))
theorem b_X10_componentAt_4 {r0 : Nat} {l2 : Int32} {l3 : Int32} {v3 : Int32} {g3 : ab_H} {fs3 : List Value} (hr3 : (h)[r0]? = some (10, fs3)) (hm3 : MSE m_X10_many d [.ref r0] h (some (.int v3)) g3) (kt : v3 ≤ l3 → SW sc m_X10_componentAt (d + 1) rc rs 47 [none, none, none, none, none] [] g3 P) (kf : ¬ (v3 ≤ l3) → SW sc m_X10_componentAt (d + 1) rc rs 12 [some (.ref r0), none, some (.int l2), some (.int l3), none] [] g3 P) : SW sc m_X10_componentAt (d + 1) rc rs 4 [some (.ref r0), none, some (.int l2), some (.int l3), none] [] h P := by
  refine sw_iload_n dX10_componentAt_4 rfl ?_
  refine sw_aload_n dX10_componentAt_5 rfl ?_
  refine sw_cV dX10_componentAt_6 lv_X10_66 hm3 hr3 rfl (by decide) rfl rfl rfl (Nat.le_of_ble_eq_true rfl) (fun _ _ => rfl) rfl ?_
  show SW sc m_X10_componentAt _ _ _ 9 [some (.ref r0), none, some (.int l2), some (.int l3), none] [.int v3, .int l3] g3 P
  exact sw_icmp_ge dX10_componentAt_9 (by decide) (fun q => (sw_fg [true, false, true, true, false] rfl (kt q))) (fun q => (kf q))
theorem b_X10_componentAt_12 {r0 : Nat} {l2 : Int32} {l3 : Int32} {v3 : Int32} {g3 : ab_H} {fs3 : List Value} {v6 : Int32} {g6 : ab_H} (hr3 : (h)[r0]? = some (10, fs3)) (hm3 : MSE m_X10_component d [.ref r0, .int l3] h (some (.int v3)) g3) (hm6 : MSE m_X10_lowest d [.int v3] g3 (some (.int v6)) g6) (kt : v6 = l3 → SW sc m_X10_componentAt (d + 1) rc rs 31 [some (.ref r0), none, some (.int l2), some (.int l3), some (.int v3)] [] g6 P) (kf : ¬ (v6 = l3) → SW sc m_X10_componentAt (d + 1) rc rs 28 [some (.ref r0), none, some (.int l2), some (.int l3), none] [] g6 P) : SW sc m_X10_componentAt (d + 1) rc rs 12 [some (.ref r0), none, some (.int l2), some (.int l3), none] [] h P := by
  refine sw_aload_n dX10_componentAt_12 rfl ?_
  refine sw_iload_n dX10_componentAt_13 rfl ?_
  refine sw_cV dX10_componentAt_14 lv_X10_84 hm3 hr3 rfl (by decide) rfl rfl rfl (Nat.le_of_ble_eq_true rfl) (fun _ _ => rfl) rfl ?_
  show SW sc m_X10_componentAt _ _ _ 17 [some (.ref r0), none, some (.int l2), some (.int l3), none] [.int v3] g3 P
  refine sw_istore dX10_componentAt_17 (by decide) rfl ?_
  show SW sc m_X10_componentAt _ _ _ 19 [some (.ref r0), none, some (.int l2), some (.int l3), some (.int v3)] [] g3 P
  refine sw_iload dX10_componentAt_19 rfl ?_
  refine sw_cS dX10_componentAt_21 ls_X10_87 hm6 rfl rfl (Nat.le_of_ble_eq_true rfl) (fun _ _ => rfl) rfl ?_
  show SW sc m_X10_componentAt _ _ _ 24 [some (.ref r0), none, some (.int l2), some (.int l3), some (.int v3)] [.int v6] g6 P
  refine sw_iload_n dX10_componentAt_24 rfl ?_
  exact sw_icmp_eq dX10_componentAt_25 (by decide) (fun q => (kt q)) (fun q => (sw_fg [false, false, false, false, true] rfl (kf q)))
theorem b_X10_componentAt_28 {r0 : Nat} {l2 : Int32} {l3 : Int32} (k : SW sc m_X10_componentAt d rc rs 41 [some (.ref r0), none, some (.int l2), some (.int l3), none] [] h P) : SW sc m_X10_componentAt d rc rs 28 [some (.ref r0), none, some (.int l2), some (.int l3), none] [] h P := by
  exact sw_goto dX10_componentAt_28 (by decide) (k)
theorem b_X10_componentAt_31 {r0 : Nat} {l2 : Int32} {l3 : Int32} {l4 : Int32} (kt : ¬ l2 = 0 → SW sc m_X10_componentAt d rc rs 38 [some (.ref r0), none, some (.int l2), some (.int l3), none] [] h P) (kf : l2 = 0 → SW sc m_X10_componentAt d rc rs 35 [none, none, none, none, some (.int l4)] [] h P) : SW sc m_X10_componentAt d rc rs 31 [some (.ref r0), none, some (.int l2), some (.int l3), some (.int l4)] [] h P := by
  refine sw_iload_n dX10_componentAt_31 rfl ?_
  exact sw_if_ne dX10_componentAt_32 (by decide) (fun q => (sw_fg [false, false, false, false, true] rfl (kt q))) (fun q => (sw_fg [true, false, true, true, false] rfl (kf q)))
theorem b_X10_componentAt_35 {l4 : Int32} (hP : P (.inl (some (.int l4))) h) : SW sc m_X10_componentAt d rc rs 35 [none, none, none, none, some (.int l4)] [] h P := by
  refine sw_iload dX10_componentAt_35 rfl ?_
  exact sw_ret (v := (some (.int l4))) dX10_componentAt_37 rt_i hP
theorem b_X10_componentAt_38 {r0 : Nat} {l2 : Int32} {l3 : Int32} (k : SW sc m_X10_componentAt d rc rs 41 [some (.ref r0), none, some (.int (l2 + (-1))), some (.int l3), none] [] h P) : SW sc m_X10_componentAt d rc rs 38 [some (.ref r0), none, some (.int l2), some (.int l3), none] [] h P := by
  refine sw_iinc (v := l2 + (-1)) dX10_componentAt_38 rfl rfl (by decide) rfl ?_
  show SW sc m_X10_componentAt _ _ _ 41 [some (.ref r0), none, some (.int (l2 + (-1))), some (.int l3), none] [] h P
  exact (k)
theorem b_X10_componentAt_41 {r0 : Nat} {l2 : Int32} {l3 : Int32} (k : SW sc m_X10_componentAt d rc rs 4 [some (.ref r0), none, some (.int l2), some (.int (l3 + 1)), none] [] h P) : SW sc m_X10_componentAt d rc rs 41 [some (.ref r0), none, some (.int l2), some (.int l3), none] [] h P := by
  refine sw_iinc (v := l3 + 1) dX10_componentAt_41 rfl rfl (by decide) rfl ?_
  show SW sc m_X10_componentAt _ _ _ 44 [some (.ref r0), none, some (.int l2), some (.int (l3 + 1)), none] [] h P
  exact sw_goto dX10_componentAt_44 (by decide) (k)
theorem b_X10_componentAt_47  (hP : P (.inl (some (.int 0))) h) : SW sc m_X10_componentAt d rc rs 47 [none, none, none, none, none] [] h P := by
  refine sw_iconst (v := 0) dX10_componentAt_47 (by decide) ?_
  exact sw_ret (v := (some (.int 0))) dX10_componentAt_48 rt_i hP
theorem b_X10_numberOf_0 {r0 : Nat} {l1 : Int32} (k : SW sc m_X10_numberOf d rc rs 4 [some (.ref r0), some (.int l1), some (.int 0), some (.int 0)] [] h P) : SW sc m_X10_numberOf d rc rs 0 [some (.ref r0), some (.int l1), none, none] [] h P := by
  refine sw_iconst (v := 0) dX10_numberOf_0 (by decide) ?_
  refine sw_istore_n dX10_numberOf_1 (by decide) rfl ?_
  show SW sc m_X10_numberOf _ _ _ 2 [some (.ref r0), some (.int l1), some (.int 0), none] [] h P
  refine sw_iconst (v := 0) dX10_numberOf_2 (by decide) ?_
  refine sw_istore_n dX10_numberOf_3 (by decide) rfl ?_
  show SW sc m_X10_numberOf _ _ _ 4 [some (.ref r0), some (.int l1), some (.int 0), some (.int 0)] [] h P
  exact (k)
theorem b_X10_numberOf_4 {r0 : Nat} {l1 : Int32} {l2 : Int32} {l3 : Int32} {v4 : Int32} {g4 : ab_H} {fs4 : List Value} {v5 : Int32} {g5 : ab_H} (hr4 : (h)[r0]? = some (10, fs4)) (hm4 : MSE m_X10_component d [.ref r0, .int l1] h (some (.int v4)) g4) (hm5 : MSE m_X10_lowest d [.int v4] g4 (some (.int v5)) g5) (kt : v5 ≤ l3 → SW sc m_X10_numberOf (d + 1) rc rs 42 [none, none, some (.int l2), none] [] g5 P) (kf : ¬ (v5 ≤ l3) → SW sc m_X10_numberOf (d + 1) rc rs 16 [some (.ref r0), some (.int l1), some (.int l2), some (.int l3)] [] g5 P) : SW sc m_X10_numberOf (d + 1) rc rs 4 [some (.ref r0), some (.int l1), some (.int l2), some (.int l3)] [] h P := by
  refine sw_iload_n dX10_numberOf_4 rfl ?_
  refine sw_aload_n dX10_numberOf_5 rfl ?_
  refine sw_iload_n dX10_numberOf_6 rfl ?_
  refine sw_cV dX10_numberOf_7 lv_X10_84 hm4 hr4 rfl (by decide) rfl rfl rfl (Nat.le_of_ble_eq_true rfl) (fun _ _ => rfl) rfl ?_
  show SW sc m_X10_numberOf _ _ _ 10 [some (.ref r0), some (.int l1), some (.int l2), some (.int l3)] [.int v4, .int l3] g4 P
  refine sw_cS dX10_numberOf_10 ls_X10_87 hm5 rfl rfl (Nat.le_of_ble_eq_true rfl) (fun _ _ => rfl) rfl ?_
  show SW sc m_X10_numberOf _ _ _ 13 [some (.ref r0), some (.int l1), some (.int l2), some (.int l3)] [.int v5, .int l3] g5 P
  exact sw_icmp_ge dX10_numberOf_13 (by decide) (fun q => (sw_fg [true, true, false, true] rfl (kt q))) (fun q => (kf q))
theorem b_X10_numberOf_16 {r0 : Nat} {l1 : Int32} {l2 : Int32} {l3 : Int32} {v4 : Int32} {g4 : ab_H} {fs4 : List Value} {v5 : Int32} {g5 : ab_H} (hr4 : (h)[r0]? = some (10, fs4)) (hm4 : MSE m_X10_component d [.ref r0, .int l3] h (some (.int v4)) g4) (hm5 : MSE m_X10_lowest d [.int v4] g4 (some (.int v5)) g5) (kt : ¬ v5 = l3 → SW sc m_X10_numberOf (d + 1) rc rs 33 [some (.ref r0), some (.int l1), none, some (.int l3)] [.int l2] g5 P) (kf : v5 = l3 → SW sc m_X10_numberOf (d + 1) rc rs 29 [some (.ref r0), some (.int l1), none, some (.int l3)] [.int l2] g5 P) : SW sc m_X10_numberOf (d + 1) rc rs 16 [some (.ref r0), some (.int l1), some (.int l2), some (.int l3)] [] h P := by
  refine sw_iload_n dX10_numberOf_16 rfl ?_
  refine sw_aload_n dX10_numberOf_17 rfl ?_
  refine sw_iload_n dX10_numberOf_18 rfl ?_
  refine sw_cV dX10_numberOf_19 lv_X10_84 hm4 hr4 rfl (by decide) rfl rfl rfl (Nat.le_of_ble_eq_true rfl) (fun _ _ => rfl) rfl ?_
  show SW sc m_X10_numberOf _ _ _ 22 [some (.ref r0), some (.int l1), some (.int l2), some (.int l3)] [.int v4, .int l2] g4 P
  refine sw_cS dX10_numberOf_22 ls_X10_87 hm5 rfl rfl (Nat.le_of_ble_eq_true rfl) (fun _ _ => rfl) rfl ?_
  show SW sc m_X10_numberOf _ _ _ 25 [some (.ref r0), some (.int l1), some (.int l2), some (.int l3)] [.int v5, .int l2] g5 P
  refine sw_iload_n dX10_numberOf_25 rfl ?_
  exact sw_icmp_ne dX10_numberOf_26 (by decide) (fun q => (sw_fg [false, false, true, false] rfl (kt q))) (fun q => (sw_fg [false, false, true, false] rfl (kf q)))
theorem b_X10_numberOf_29 {r0 : Nat} {l1 : Int32} {l3 : Int32} {s0 : Int32} (k : SW sc m_X10_numberOf d rc rs 34 [some (.ref r0), some (.int l1), none, some (.int l3)] [.int 1, .int s0] h P) : SW sc m_X10_numberOf d rc rs 29 [some (.ref r0), some (.int l1), none, some (.int l3)] [.int s0] h P := by
  refine sw_iconst (v := 1) dX10_numberOf_29 (by decide) ?_
  exact sw_goto dX10_numberOf_30 (by decide) (k)
theorem b_X10_numberOf_33 {r0 : Nat} {l1 : Int32} {l3 : Int32} {s0 : Int32} (k : SW sc m_X10_numberOf d rc rs 34 [some (.ref r0), some (.int l1), none, some (.int l3)] [.int 0, .int s0] h P) : SW sc m_X10_numberOf d rc rs 33 [some (.ref r0), some (.int l1), none, some (.int l3)] [.int s0] h P := by
  refine sw_iconst (v := 0) dX10_numberOf_33 (by decide) ?_
  exact (k)
theorem b_X10_numberOf_34 {r0 : Nat} {l1 : Int32} {l3 : Int32} {s0 : Int32} {s1 : Int32} (k : SW sc m_X10_numberOf d rc rs 4 [some (.ref r0), some (.int l1), some (.int (s0 + s1)), some (.int (l3 + 1))] [] h P) : SW sc m_X10_numberOf d rc rs 34 [some (.ref r0), some (.int l1), none, some (.int l3)] [.int s1, .int s0] h P := by
  refine sw_iadd dX10_numberOf_34 ?_
  refine sw_istore_n dX10_numberOf_35 (by decide) rfl ?_
  show SW sc m_X10_numberOf _ _ _ 36 [some (.ref r0), some (.int l1), some (.int (s0 + s1)), some (.int l3)] [] h P
  refine sw_iinc (v := l3 + 1) dX10_numberOf_36 rfl rfl (by decide) rfl ?_
  show SW sc m_X10_numberOf _ _ _ 39 [some (.ref r0), some (.int l1), some (.int (s0 + s1)), some (.int (l3 + 1))] [] h P
  exact sw_goto dX10_numberOf_39 (by decide) (k)
theorem b_X10_numberOf_42 {l2 : Int32} (hP : P (.inl (some (.int l2))) h) : SW sc m_X10_numberOf d rc rs 42 [none, none, some (.int l2), none] [] h P := by
  refine sw_iload_n dX10_numberOf_42 rfl ?_
  exact sw_ret (v := (some (.int l2))) dX10_numberOf_43 rt_i hP
theorem b_X10_far_0 {r0 : Nat} {l1 : Int32} {l2 : Int32} (k : SW sc m_X10_far d rc rs 7 [some (.ref r0), none, some (.int l2), some (.int (1 <<< (l1 &&& 31))), some (.int 0), none, none] [] h P) : SW sc m_X10_far d rc rs 0 [some (.ref r0), some (.int l1), some (.int l2), none, none, none, none] [] h P := by
  refine sw_iconst (v := 1) dX10_far_0 (by decide) ?_
  refine sw_iload_n dX10_far_1 rfl ?_
  refine sw_ishl dX10_far_2 ?_
  refine sw_istore_n dX10_far_3 (by decide) rfl ?_
  show SW sc m_X10_far _ _ _ 4 [some (.ref r0), some (.int l1), some (.int l2), some (.int (1 <<< (l1 &&& 31))), none, none, none] [] h P
  refine sw_iconst (v := 0) dX10_far_4 (by decide) ?_
  refine sw_istore dX10_far_5 (by decide) rfl ?_
  show SW sc m_X10_far _ _ _ 7 [some (.ref r0), some (.int l1), some (.int l2), some (.int (1 <<< (l1 &&& 31))), some (.int 0), none, none] [] h P
  exact (sw_fg [false, true, false, false, false, false, false] rfl (k))
theorem b_X10_far_7 {r0 : Nat} {l2 : Int32} {l3 : Int32} {l4 : Int32} {v3 : Int32} {g3 : ab_H} {fs3 : List Value} (hr3 : (h)[r0]? = some (10, fs3)) (hm3 : MSE m_X10_many d [.ref r0] h (some (.int v3)) g3) (kt : v3 ≤ l4 → SW sc m_X10_far (d + 1) rc rs 77 [none, none, none, none, none, none, none] [] g3 P) (kf : ¬ (v3 ≤ l4) → SW sc m_X10_far (d + 1) rc rs 16 [some (.ref r0), none, some (.int l2), some (.int l3), some (.int l4), none, none] [] g3 P) : SW sc m_X10_far (d + 1) rc rs 7 [some (.ref r0), none, some (.int l2), some (.int l3), some (.int l4), none, none] [] h P := by
  refine sw_iload dX10_far_7 rfl ?_
  refine sw_aload_n dX10_far_9 rfl ?_
  refine sw_cV dX10_far_10 lv_X10_66 hm3 hr3 rfl (by decide) rfl rfl rfl (Nat.le_of_ble_eq_true rfl) (fun _ _ => rfl) rfl ?_
  show SW sc m_X10_far _ _ _ 13 [some (.ref r0), none, some (.int l2), some (.int l3), some (.int l4), none, none] [.int v3, .int l4] g3 P
  exact sw_icmp_ge dX10_far_13 (by decide) (fun q => (sw_fg [true, false, true, true, true, false, false] rfl (kt q))) (fun q => (kf q))
theorem b_X10_far_16 {r0 : Nat} {l2 : Int32} {l3 : Int32} {l4 : Int32} {v3 : Int32} {g3 : ab_H} (hm3 : MSE m_X10_has d [.int l3, .int l2] h (some (.int v3)) g3) (kt : v3 = 0 → SW sc m_X10_far (d + 1) rc rs 27 [some (.ref r0), none, some (.int l2), some (.int l3), some (.int l4), none, none] [] g3 P) (kf : ¬ (v3 = 0) → SW sc m_X10_far (d + 1) rc rs 24 [none, none, none, none, some (.int l4), none, none] [] g3 P) : SW sc m_X10_far (d + 1) rc rs 16 [some (.ref r0), none, some (.int l2), some (.int l3), some (.int l4), none, none] [] h P := by
  refine sw_iload_n dX10_far_16 rfl ?_
  refine sw_iload_n dX10_far_17 rfl ?_
  refine sw_cS dX10_far_18 ls_X10_70 hm3 rfl rfl (Nat.le_of_ble_eq_true rfl) (fun _ _ => rfl) rfl ?_
  show SW sc m_X10_far _ _ _ 21 [some (.ref r0), none, some (.int l2), some (.int l3), some (.int l4), none, none] [.int v3] g3 P
  exact sw_if_eq dX10_far_21 (by decide) (fun q => (kt q)) (fun q => (sw_fg [true, false, true, true, false, false, false] rfl (kf q)))
theorem b_X10_far_24 {l4 : Int32} (hP : P (.inl (some (.int l4))) h) : SW sc m_X10_far d rc rs 24 [none, none, none, none, some (.int l4), none, none] [] h P := by
  refine sw_iload dX10_far_24 rfl ?_
  exact sw_ret (v := (some (.int l4))) dX10_far_26 rt_i hP
theorem b_X10_far_27 {r0 : Nat} {l2 : Int32} {l3 : Int32} {l4 : Int32} (k : SW sc m_X10_far d rc rs 33 [some (.ref r0), none, some (.int l2), some (.int l3), some (.int l4), some (.int l3), some (.int 0)] [] h P) : SW sc m_X10_far d rc rs 27 [some (.ref r0), none, some (.int l2), some (.int l3), some (.int l4), none, none] [] h P := by
  refine sw_iload_n dX10_far_27 rfl ?_
  refine sw_istore dX10_far_28 (by decide) rfl ?_
  show SW sc m_X10_far _ _ _ 30 [some (.ref r0), none, some (.int l2), some (.int l3), some (.int l4), some (.int l3), none] [] h P
  refine sw_iconst (v := 0) dX10_far_30 (by decide) ?_
  refine sw_istore dX10_far_31 (by decide) rfl ?_
  show SW sc m_X10_far _ _ _ 33 [some (.ref r0), none, some (.int l2), some (.int l3), some (.int l4), some (.int l3), some (.int 0)] [] h P
  exact (k)
theorem b_X10_far_33 {r0 : Nat} {l2 : Int32} {l3 : Int32} {l4 : Int32} {l5 : Int32} {l6 : Int32} {v3 : Int32} {g3 : ab_H} {fs3 : List Value} (hr3 : (h)[r0]? = some (10, fs3)) (hm3 : MSE m_X10_many d [.ref r0] h (some (.int v3)) g3) (kt : v3 ≤ l6 → SW sc m_X10_far (d + 1) rc rs 68 [some (.ref r0), none, some (.int l2), none, some (.int l4), some (.int l5), none] [] g3 P) (kf : ¬ (v3 ≤ l6) → SW sc m_X10_far (d + 1) rc rs 42 [some (.ref r0), none, some (.int l2), some (.int l3), some (.int l4), some (.int l5), some (.int l6)] [] g3 P) : SW sc m_X10_far (d + 1) rc rs 33 [some (.ref r0), none, some (.int l2), some (.int l3), some (.int l4), some (.int l5), some (.int l6)] [] h P := by
  refine sw_iload dX10_far_33 rfl ?_
  refine sw_aload_n dX10_far_35 rfl ?_
  refine sw_cV dX10_far_36 lv_X10_66 hm3 hr3 rfl (by decide) rfl rfl rfl (Nat.le_of_ble_eq_true rfl) (fun _ _ => rfl) rfl ?_
  show SW sc m_X10_far _ _ _ 39 [some (.ref r0), none, some (.int l2), some (.int l3), some (.int l4), some (.int l5), some (.int l6)] [.int v3, .int l6] g3 P
  exact sw_icmp_ge dX10_far_39 (by decide) (fun q => (sw_fg [false, false, false, true, false, false, true] rfl (kt q))) (fun q => (kf q))
theorem b_X10_far_42 {r0 : Nat} {l2 : Int32} {l3 : Int32} {l4 : Int32} {l5 : Int32} {l6 : Int32} {v3 : Int32} {g3 : ab_H} (hm3 : MSE m_X10_has d [.int l3, .int l6] h (some (.int v3)) g3) (kt : v3 = 0 → SW sc m_X10_far (d + 1) rc rs 62 [some (.ref r0), none, some (.int l2), some (.int l3), some (.int l4), some (.int l5), some (.int l6)] [] g3 P) (kf : ¬ (v3 = 0) → SW sc m_X10_far (d + 1) rc rs 51 [some (.ref r0), none, some (.int l2), some (.int l3), some (.int l4), some (.int l5), some (.int l6)] [] g3 P) : SW sc m_X10_far (d + 1) rc rs 42 [some (.ref r0), none, some (.int l2), some (.int l3), some (.int l4), some (.int l5), some (.int l6)] [] h P := by
  refine sw_iload_n dX10_far_42 rfl ?_
  refine sw_iload dX10_far_43 rfl ?_
  refine sw_cS dX10_far_45 ls_X10_70 hm3 rfl rfl (Nat.le_of_ble_eq_true rfl) (fun _ _ => rfl) rfl ?_
  show SW sc m_X10_far _ _ _ 48 [some (.ref r0), none, some (.int l2), some (.int l3), some (.int l4), some (.int l5), some (.int l6)] [.int v3] g3 P
  exact sw_if_eq dX10_far_48 (by decide) (fun q => (kt q)) (fun q => (kf q))
theorem b_X10_far_51 {r0 : Nat} {l2 : Int32} {l3 : Int32} {l4 : Int32} {l5 : Int32} {l6 : Int32} {v4 : Int32} {g4 : ab_H} {fs4 : List Value} (hr4 : (h)[r0]? = some (10, fs4)) (hm4 : MSE m_X10_at d [.ref r0, .int l6] h (some (.int v4)) g4) (k : SW sc m_X10_far (d + 1) rc rs 62 [some (.ref r0), none, some (.int l2), some (.int l3), some (.int l4), some (.int (l5 ||| v4)), some (.int l6)] [] g4 P) : SW sc m_X10_far (d + 1) rc rs 51 [some (.ref r0), none, some (.int l2), some (.int l3), some (.int l4), some (.int l5), some (.int l6)] [] h P := by
  refine sw_iload dX10_far_51 rfl ?_
  refine sw_aload_n dX10_far_53 rfl ?_
  refine sw_iload dX10_far_54 rfl ?_
  refine sw_cV dX10_far_56 lv_X10_74 hm4 hr4 rfl (by decide) rfl rfl rfl (Nat.le_of_ble_eq_true rfl) (fun _ _ => rfl) rfl ?_
  show SW sc m_X10_far _ _ _ 59 [some (.ref r0), none, some (.int l2), some (.int l3), some (.int l4), some (.int l5), some (.int l6)] [.int v4, .int l5] g4 P
  refine sw_ior dX10_far_59 ?_
  refine sw_istore dX10_far_60 (by decide) rfl ?_
  show SW sc m_X10_far _ _ _ 62 [some (.ref r0), none, some (.int l2), some (.int l3), some (.int l4), some (.int (l5 ||| v4)), some (.int l6)] [] g4 P
  exact (k)
theorem b_X10_far_62 {r0 : Nat} {l2 : Int32} {l3 : Int32} {l4 : Int32} {l5 : Int32} {l6 : Int32} (k : SW sc m_X10_far d rc rs 33 [some (.ref r0), none, some (.int l2), some (.int l3), some (.int l4), some (.int l5), some (.int (l6 + 1))] [] h P) : SW sc m_X10_far d rc rs 62 [some (.ref r0), none, some (.int l2), some (.int l3), some (.int l4), some (.int l5), some (.int l6)] [] h P := by
  refine sw_iinc (v := l6 + 1) dX10_far_62 rfl rfl (by decide) rfl ?_
  show SW sc m_X10_far _ _ _ 65 [some (.ref r0), none, some (.int l2), some (.int l3), some (.int l4), some (.int l5), some (.int (l6 + 1))] [] h P
  exact sw_goto dX10_far_65 (by decide) (k)
theorem b_X10_far_68 {r0 : Nat} {l2 : Int32} {l4 : Int32} {l5 : Int32} (k : SW sc m_X10_far d rc rs 7 [some (.ref r0), none, some (.int l2), some (.int l5), some (.int (l4 + 1)), none, none] [] h P) : SW sc m_X10_far d rc rs 68 [some (.ref r0), none, some (.int l2), none, some (.int l4), some (.int l5), none] [] h P := by
  refine sw_iload dX10_far_68 rfl ?_
  refine sw_istore_n dX10_far_70 (by decide) rfl ?_
  show SW sc m_X10_far _ _ _ 71 [some (.ref r0), none, some (.int l2), some (.int l5), some (.int l4), some (.int l5), none] [] h P
  refine sw_iinc (v := l4 + 1) dX10_far_71 rfl rfl (by decide) rfl ?_
  show SW sc m_X10_far _ _ _ 74 [some (.ref r0), none, some (.int l2), some (.int l5), some (.int (l4 + 1)), some (.int l5), none] [] h P
  exact sw_goto dX10_far_74 (by decide) (sw_fg [false, false, false, false, false, true, false] rfl (k))
theorem b_X10_far_77  (hP : P (.inl (some (.int (-1)))) h) : SW sc m_X10_far d rc rs 77 [none, none, none, none, none, none, none] [] h P := by
  refine sw_iconst (v := (-1)) dX10_far_77 (by decide) ?_
  exact sw_ret (v := (some (.int (-1)))) dX10_far_78 rt_i hP
theorem b_X10_eccentricity_0 {r0 : Nat} {l1 : Int32} {v5 : Int32} {g5 : ab_H} {fs5 : List Value} (hr5 : (h)[r0]? = some (10, fs5)) (hm5 : MSE m_X10_component d [.ref r0, .int l1] h (some (.int v5)) g5) (k : SW sc m_X10_eccentricity (d + 1) rc rs 11 [some (.ref r0), some (.int l1), some (.int 0), some (.int v5), some (.int 0)] [] g5 P) : SW sc m_X10_eccentricity (d + 1) rc rs 0 [some (.ref r0), some (.int l1), none, none, none] [] h P := by
  refine sw_iconst (v := 0) dX10_eccentricity_0 (by decide) ?_
  refine sw_istore_n dX10_eccentricity_1 (by decide) rfl ?_
  show SW sc m_X10_eccentricity _ _ _ 2 [some (.ref r0), some (.int l1), some (.int 0), none, none] [] h P
  refine sw_aload_n dX10_eccentricity_2 rfl ?_
  refine sw_iload_n dX10_eccentricity_3 rfl ?_
  refine sw_cV dX10_eccentricity_4 lv_X10_84 hm5 hr5 rfl (by decide) rfl rfl rfl (Nat.le_of_ble_eq_true rfl) (fun _ _ => rfl) rfl ?_
  show SW sc m_X10_eccentricity _ _ _ 7 [some (.ref r0), some (.int l1), some (.int 0), none, none] [.int v5] g5 P
  refine sw_istore_n dX10_eccentricity_7 (by decide) rfl ?_
  show SW sc m_X10_eccentricity _ _ _ 8 [some (.ref r0), some (.int l1), some (.int 0), some (.int v5), none] [] g5 P
  refine sw_iconst (v := 0) dX10_eccentricity_8 (by decide) ?_
  refine sw_istore dX10_eccentricity_9 (by decide) rfl ?_
  show SW sc m_X10_eccentricity _ _ _ 11 [some (.ref r0), some (.int l1), some (.int 0), some (.int v5), some (.int 0)] [] g5 P
  exact (k)
theorem b_X10_eccentricity_11 {r0 : Nat} {l1 : Int32} {l2 : Int32} {l3 : Int32} {l4 : Int32} {v3 : Int32} {g3 : ab_H} {fs3 : List Value} (hr3 : (h)[r0]? = some (10, fs3)) (hm3 : MSE m_X10_many d [.ref r0] h (some (.int v3)) g3) (kt : v3 ≤ l4 → SW sc m_X10_eccentricity (d + 1) rc rs 47 [none, none, some (.int l2), none, none] [] g3 P) (kf : ¬ (v3 ≤ l4) → SW sc m_X10_eccentricity (d + 1) rc rs 20 [some (.ref r0), some (.int l1), some (.int l2), some (.int l3), some (.int l4)] [] g3 P) : SW sc m_X10_eccentricity (d + 1) rc rs 11 [some (.ref r0), some (.int l1), some (.int l2), some (.int l3), some (.int l4)] [] h P := by
  refine sw_iload dX10_eccentricity_11 rfl ?_
  refine sw_aload_n dX10_eccentricity_13 rfl ?_
  refine sw_cV dX10_eccentricity_14 lv_X10_66 hm3 hr3 rfl (by decide) rfl rfl rfl (Nat.le_of_ble_eq_true rfl) (fun _ _ => rfl) rfl ?_
  show SW sc m_X10_eccentricity _ _ _ 17 [some (.ref r0), some (.int l1), some (.int l2), some (.int l3), some (.int l4)] [.int v3, .int l4] g3 P
  exact sw_icmp_ge dX10_eccentricity_17 (by decide) (fun q => (sw_fg [true, true, false, true, true] rfl (kt q))) (fun q => (kf q))
theorem b_X10_eccentricity_20 {r0 : Nat} {l1 : Int32} {l2 : Int32} {l3 : Int32} {l4 : Int32} {v3 : Int32} {g3 : ab_H} (hm3 : MSE m_X10_has d [.int l3, .int l4] h (some (.int v3)) g3) (kt : v3 = 0 → SW sc m_X10_eccentricity (d + 1) rc rs 41 [some (.ref r0), some (.int l1), some (.int l2), some (.int l3), some (.int l4)] [] g3 P) (kf : ¬ (v3 = 0) → SW sc m_X10_eccentricity (d + 1) rc rs 29 [some (.ref r0), some (.int l1), some (.int l2), some (.int l3), some (.int l4)] [] g3 P) : SW sc m_X10_eccentricity (d + 1) rc rs 20 [some (.ref r0), some (.int l1), some (.int l2), some (.int l3), some (.int l4)] [] h P := by
  refine sw_iload_n dX10_eccentricity_20 rfl ?_
  refine sw_iload dX10_eccentricity_21 rfl ?_
  refine sw_cS dX10_eccentricity_23 ls_X10_70 hm3 rfl rfl (Nat.le_of_ble_eq_true rfl) (fun _ _ => rfl) rfl ?_
  show SW sc m_X10_eccentricity _ _ _ 26 [some (.ref r0), some (.int l1), some (.int l2), some (.int l3), some (.int l4)] [.int v3] g3 P
  exact sw_if_eq dX10_eccentricity_26 (by decide) (fun q => (kt q)) (fun q => (kf q))
theorem b_X10_eccentricity_29 {r0 : Nat} {l1 : Int32} {l2 : Int32} {l3 : Int32} {l4 : Int32} {v5 : Int32} {g5 : ab_H} {fs5 : List Value} {v6 : Int32} {g6 : ab_H} (hr5 : (h)[r0]? = some (10, fs5)) (hm5 : MSE m_X10_far d [.ref r0, .int l1, .int l4] h (some (.int v5)) g5) (hm6 : MSE m_J9_max_7cf53 d [.int l2, .int v5] g5 (some (.int v6)) g6) (k : SW sc m_X10_eccentricity (d + 1) rc rs 41 [some (.ref r0), some (.int l1), some (.int v6), some (.int l3), some (.int l4)] [] g6 P) : SW sc m_X10_eccentricity (d + 1) rc rs 29 [some (.ref r0), some (.int l1), some (.int l2), some (.int l3), some (.int l4)] [] h P := by
  refine sw_iload_n dX10_eccentricity_29 rfl ?_
  refine sw_aload_n dX10_eccentricity_30 rfl ?_
  refine sw_iload_n dX10_eccentricity_31 rfl ?_
  refine sw_iload dX10_eccentricity_32 rfl ?_
  refine sw_cV dX10_eccentricity_34 lv_X10_90 hm5 hr5 rfl (by decide) rfl rfl rfl (Nat.le_of_ble_eq_true rfl) (fun _ _ => rfl) rfl ?_
  show SW sc m_X10_eccentricity _ _ _ 37 [some (.ref r0), some (.int l1), some (.int l2), some (.int l3), some (.int l4)] [.int v5, .int l2] g5 P
  refine sw_cS dX10_eccentricity_37 ls_X10_93 hm6 rfl rfl (Nat.le_of_ble_eq_true rfl) (fun _ _ => rfl) rfl ?_
  show SW sc m_X10_eccentricity _ _ _ 40 [some (.ref r0), some (.int l1), some (.int l2), some (.int l3), some (.int l4)] [.int v6] g6 P
  refine sw_istore_n dX10_eccentricity_40 (by decide) rfl ?_
  show SW sc m_X10_eccentricity _ _ _ 41 [some (.ref r0), some (.int l1), some (.int v6), some (.int l3), some (.int l4)] [] g6 P
  exact (k)
theorem b_X10_eccentricity_41 {r0 : Nat} {l1 : Int32} {l2 : Int32} {l3 : Int32} {l4 : Int32} (k : SW sc m_X10_eccentricity d rc rs 11 [some (.ref r0), some (.int l1), some (.int l2), some (.int l3), some (.int (l4 + 1))] [] h P) : SW sc m_X10_eccentricity d rc rs 41 [some (.ref r0), some (.int l1), some (.int l2), some (.int l3), some (.int l4)] [] h P := by
  refine sw_iinc (v := l4 + 1) dX10_eccentricity_41 rfl rfl (by decide) rfl ?_
  show SW sc m_X10_eccentricity _ _ _ 44 [some (.ref r0), some (.int l1), some (.int l2), some (.int l3), some (.int (l4 + 1))] [] h P
  exact sw_goto dX10_eccentricity_44 (by decide) (k)
theorem b_X10_eccentricity_47 {l2 : Int32} (hP : P (.inl (some (.int l2))) h) : SW sc m_X10_eccentricity d rc rs 47 [none, none, some (.int l2), none, none] [] h P := by
  refine sw_iload_n dX10_eccentricity_47 rfl ?_
  exact sw_ret (v := (some (.int l2))) dX10_eccentricity_48 rt_i hP
theorem b_X10_weightOf_0 {r0 : Nat} {l1 : Int32} {l2 : Int32} (k : SW sc m_X10_weightOf d rc rs 5 [some (.ref r0), some (.int l1), some (.int l2), some (.int 0), some (.int 0)] [] h P) : SW sc m_X10_weightOf d rc rs 0 [some (.ref r0), some (.int l1), some (.int l2), none, none] [] h P := by
  refine sw_iconst (v := 0) dX10_weightOf_0 (by decide) ?_
  refine sw_istore_n dX10_weightOf_1 (by decide) rfl ?_
  show SW sc m_X10_weightOf _ _ _ 2 [some (.ref r0), some (.int l1), some (.int l2), some (.int 0), none] [] h P
  refine sw_iconst (v := 0) dX10_weightOf_2 (by decide) ?_
  refine sw_istore dX10_weightOf_3 (by decide) rfl ?_
  show SW sc m_X10_weightOf _ _ _ 5 [some (.ref r0), some (.int l1), some (.int l2), some (.int 0), some (.int 0)] [] h P
  exact (k)
theorem b_X10_weightOf_5 {r0 : Nat} {l1 : Int32} {l2 : Int32} {l3 : Int32} {l4 : Int32} {v3 : Int32} {g3 : ab_H} {fs3 : List Value} (hr3 : (h)[r0]? = some (10, fs3)) (hm3 : MSE m_X10_many d [.ref r0] h (some (.int v3)) g3) (kt : v3 ≤ l4 → SW sc m_X10_weightOf (d + 1) rc rs 50 [none, none, none, some (.int l3), none] [] g3 P) (kf : ¬ (v3 ≤ l4) → SW sc m_X10_weightOf (d + 1) rc rs 14 [some (.ref r0), some (.int l1), some (.int l2), some (.int l3), some (.int l4)] [] g3 P) : SW sc m_X10_weightOf (d + 1) rc rs 5 [some (.ref r0), some (.int l1), some (.int l2), some (.int l3), some (.int l4)] [] h P := by
  refine sw_iload dX10_weightOf_5 rfl ?_
  refine sw_aload_n dX10_weightOf_7 rfl ?_
  refine sw_cV dX10_weightOf_8 lv_X10_66 hm3 hr3 rfl (by decide) rfl rfl rfl (Nat.le_of_ble_eq_true rfl) (fun _ _ => rfl) rfl ?_
  show SW sc m_X10_weightOf _ _ _ 11 [some (.ref r0), some (.int l1), some (.int l2), some (.int l3), some (.int l4)] [.int v3, .int l4] g3 P
  exact sw_icmp_ge dX10_weightOf_11 (by decide) (fun q => (sw_fg [true, true, true, false, true] rfl (kt q))) (fun q => (kf q))
theorem b_X10_weightOf_14 {r0 : Nat} {l1 : Int32} {l2 : Int32} {l3 : Int32} {l4 : Int32} {v3 : Int32} {g3 : ab_H} (hm3 : MSE m_X10_has d [.int l1, .int l4] h (some (.int v3)) g3) (kt : v3 = 0 → SW sc m_X10_weightOf (d + 1) rc rs 44 [some (.ref r0), some (.int l1), some (.int l2), some (.int l3), some (.int l4)] [] g3 P) (kf : ¬ (v3 = 0) → SW sc m_X10_weightOf (d + 1) rc rs 23 [some (.ref r0), some (.int l1), some (.int l2), some (.int l3), some (.int l4)] [] g3 P) : SW sc m_X10_weightOf (d + 1) rc rs 14 [some (.ref r0), some (.int l1), some (.int l2), some (.int l3), some (.int l4)] [] h P := by
  refine sw_iload_n dX10_weightOf_14 rfl ?_
  refine sw_iload dX10_weightOf_15 rfl ?_
  refine sw_cS dX10_weightOf_17 ls_X10_70 hm3 rfl rfl (Nat.le_of_ble_eq_true rfl) (fun _ _ => rfl) rfl ?_
  show SW sc m_X10_weightOf _ _ _ 20 [some (.ref r0), some (.int l1), some (.int l2), some (.int l3), some (.int l4)] [.int v3] g3 P
  exact sw_if_eq dX10_weightOf_20 (by decide) (fun q => (kt q)) (fun q => (kf q))
theorem b_X10_weightOf_23 {r0 : Nat} {l1 : Int32} {l2 : Int32} {l3 : Int32} {l4 : Int32} (kt : l2 = 0 → SW sc m_X10_weightOf d rc rs 41 [some (.ref r0), some (.int l1), some (.int l2), none, some (.int l4)] [.int l3] h P) (kf : ¬ (l2 = 0) → SW sc m_X10_weightOf d rc rs 28 [some (.ref r0), some (.int l1), some (.int l2), none, some (.int l4)] [.int l3] h P) : SW sc m_X10_weightOf d rc rs 23 [some (.ref r0), some (.int l1), some (.int l2), some (.int l3), some (.int l4)] [] h P := by
  refine sw_iload_n dX10_weightOf_23 rfl ?_
  refine sw_iload_n dX10_weightOf_24 rfl ?_
  exact sw_if_eq dX10_weightOf_25 (by decide) (fun q => (sw_fg [false, false, false, true, false] rfl (kt q))) (fun q => (sw_fg [false, false, false, true, false] rfl (kf q)))
theorem b_X10_weightOf_28 {r0 : Nat} {l1 : Int32} {l2 : Int32} {l4 : Int32} {s0 : Int32} {fs2 : List Value} {a2 : Nat} {vs6 : List Value} {x6 : Int32} (hc2 : (h)[r0]? = some (10, fs2)) (hv2 : fs2[1]? = some (.ref a2)) (hc6 : (h)[a2]? = some (100, vs6)) (ho6 : ¬ (10 + l4) < 0) (hi6 : vs6[(10 + l4).toNatClampNeg]? = some (.int x6)) (k : SW sc m_X10_weightOf d rc rs 42 [some (.ref r0), some (.int l1), some (.int l2), none, some (.int l4)] [.int x6, .int s0] h P) : SW sc m_X10_weightOf d rc rs 28 [some (.ref r0), some (.int l1), some (.int l2), none, some (.int l4)] [.int s0] h P := by
  refine sw_aload_n dX10_weightOf_28 rfl ?_
  refine sw_getf dX10_weightOf_29 lf_X10_19 hc2 hv2 ?_
  refine sw_bipush (v := 10) dX10_weightOf_32 (by decide) ?_
  refine sw_iload dX10_weightOf_34 rfl ?_
  refine sw_iadd dX10_weightOf_36 ?_
  refine sw_iald dX10_weightOf_37 hc6 ho6 hi6 ?_
  exact sw_goto dX10_weightOf_38 (by decide) (k)
theorem b_X10_weightOf_41 {r0 : Nat} {l1 : Int32} {l2 : Int32} {l4 : Int32} {s0 : Int32} (k : SW sc m_X10_weightOf d rc rs 42 [some (.ref r0), some (.int l1), some (.int l2), none, some (.int l4)] [.int 1, .int s0] h P) : SW sc m_X10_weightOf d rc rs 41 [some (.ref r0), some (.int l1), some (.int l2), none, some (.int l4)] [.int s0] h P := by
  refine sw_iconst (v := 1) dX10_weightOf_41 (by decide) ?_
  exact (k)
theorem b_X10_weightOf_42 {r0 : Nat} {l1 : Int32} {l2 : Int32} {l4 : Int32} {s0 : Int32} {s1 : Int32} (k : SW sc m_X10_weightOf d rc rs 44 [some (.ref r0), some (.int l1), some (.int l2), some (.int (s0 + s1)), some (.int l4)] [] h P) : SW sc m_X10_weightOf d rc rs 42 [some (.ref r0), some (.int l1), some (.int l2), none, some (.int l4)] [.int s1, .int s0] h P := by
  refine sw_iadd dX10_weightOf_42 ?_
  refine sw_istore_n dX10_weightOf_43 (by decide) rfl ?_
  show SW sc m_X10_weightOf _ _ _ 44 [some (.ref r0), some (.int l1), some (.int l2), some (.int (s0 + s1)), some (.int l4)] [] h P
  exact (k)
theorem b_X10_weightOf_44 {r0 : Nat} {l1 : Int32} {l2 : Int32} {l3 : Int32} {l4 : Int32} (k : SW sc m_X10_weightOf d rc rs 5 [some (.ref r0), some (.int l1), some (.int l2), some (.int l3), some (.int (l4 + 1))] [] h P) : SW sc m_X10_weightOf d rc rs 44 [some (.ref r0), some (.int l1), some (.int l2), some (.int l3), some (.int l4)] [] h P := by
  refine sw_iinc (v := l4 + 1) dX10_weightOf_44 rfl rfl (by decide) rfl ?_
  show SW sc m_X10_weightOf _ _ _ 47 [some (.ref r0), some (.int l1), some (.int l2), some (.int l3), some (.int (l4 + 1))] [] h P
  exact sw_goto dX10_weightOf_47 (by decide) (k)
theorem b_X10_weightOf_50 {l3 : Int32} (hP : P (.inl (some (.int l3))) h) : SW sc m_X10_weightOf d rc rs 50 [none, none, none, some (.int l3), none] [] h P := by
  refine sw_iload_n dX10_weightOf_50 rfl ?_
  exact sw_ret (v := (some (.int l3))) dX10_weightOf_51 rt_i hP
theorem b_X10_greatestPart_0 {r0 : Nat} {l1 : Int32} {l2 : Int32} (k : SW sc m_X10_greatestPart d rc rs 5 [some (.ref r0), some (.int l1), some (.int l2), some (.int 0), some (.int 0)] [] h P) : SW sc m_X10_greatestPart d rc rs 0 [some (.ref r0), some (.int l1), some (.int l2), none, none] [] h P := by
  refine sw_iconst (v := 0) dX10_greatestPart_0 (by decide) ?_
  refine sw_istore_n dX10_greatestPart_1 (by decide) rfl ?_
  show SW sc m_X10_greatestPart _ _ _ 2 [some (.ref r0), some (.int l1), some (.int l2), some (.int 0), none] [] h P
  refine sw_iconst (v := 0) dX10_greatestPart_2 (by decide) ?_
  refine sw_istore dX10_greatestPart_3 (by decide) rfl ?_
  show SW sc m_X10_greatestPart _ _ _ 5 [some (.ref r0), some (.int l1), some (.int l2), some (.int 0), some (.int 0)] [] h P
  exact (k)
theorem b_X10_greatestPart_5 {r0 : Nat} {l1 : Int32} {l2 : Int32} {l3 : Int32} {l4 : Int32} {v3 : Int32} {g3 : ab_H} {fs3 : List Value} (hr3 : (h)[r0]? = some (10, fs3)) (hm3 : MSE m_X10_many d [.ref r0] h (some (.int v3)) g3) (kt : v3 ≤ l4 → SW sc m_X10_greatestPart (d + 1) rc rs 50 [none, none, none, some (.int l3), none] [] g3 P) (kf : ¬ (v3 ≤ l4) → SW sc m_X10_greatestPart (d + 1) rc rs 14 [some (.ref r0), some (.int l1), some (.int l2), some (.int l3), some (.int l4)] [] g3 P) : SW sc m_X10_greatestPart (d + 1) rc rs 5 [some (.ref r0), some (.int l1), some (.int l2), some (.int l3), some (.int l4)] [] h P := by
  refine sw_iload dX10_greatestPart_5 rfl ?_
  refine sw_aload_n dX10_greatestPart_7 rfl ?_
  refine sw_cV dX10_greatestPart_8 lv_X10_66 hm3 hr3 rfl (by decide) rfl rfl rfl (Nat.le_of_ble_eq_true rfl) (fun _ _ => rfl) rfl ?_
  show SW sc m_X10_greatestPart _ _ _ 11 [some (.ref r0), some (.int l1), some (.int l2), some (.int l3), some (.int l4)] [.int v3, .int l4] g3 P
  exact sw_icmp_ge dX10_greatestPart_11 (by decide) (fun q => (sw_fg [true, true, true, false, true] rfl (kt q))) (fun q => (kf q))
theorem b_X10_greatestPart_14 {r0 : Nat} {l1 : Int32} {l2 : Int32} {l3 : Int32} {l4 : Int32} {v3 : Int32} {g3 : ab_H} {fs3 : List Value} {v5 : Int32} {g5 : ab_H} (hr3 : (h)[r0]? = some (10, fs3)) (hm3 : MSE m_X10_at d [.ref r0, .int l1] h (some (.int v3)) g3) (hm5 : MSE m_X10_has d [.int v3, .int l4] g3 (some (.int v5)) g5) (kt : v5 = 0 → SW sc m_X10_greatestPart (d + 1) rc rs 44 [some (.ref r0), some (.int l1), some (.int l2), some (.int l3), some (.int l4)] [] g5 P) (kf : ¬ (v5 = 0) → SW sc m_X10_greatestPart (d + 1) rc rs 27 [some (.ref r0), some (.int l1), some (.int l2), some (.int l3), some (.int l4)] [] g5 P) : SW sc m_X10_greatestPart (d + 1) rc rs 14 [some (.ref r0), some (.int l1), some (.int l2), some (.int l3), some (.int l4)] [] h P := by
  refine sw_aload_n dX10_greatestPart_14 rfl ?_
  refine sw_iload_n dX10_greatestPart_15 rfl ?_
  refine sw_cV dX10_greatestPart_16 lv_X10_74 hm3 hr3 rfl (by decide) rfl rfl rfl (Nat.le_of_ble_eq_true rfl) (fun _ _ => rfl) rfl ?_
  show SW sc m_X10_greatestPart _ _ _ 19 [some (.ref r0), some (.int l1), some (.int l2), some (.int l3), some (.int l4)] [.int v3] g3 P
  refine sw_iload dX10_greatestPart_19 rfl ?_
  refine sw_cS dX10_greatestPart_21 ls_X10_70 hm5 rfl rfl (Nat.le_of_ble_eq_true rfl) (fun _ _ => rfl) rfl ?_
  show SW sc m_X10_greatestPart _ _ _ 24 [some (.ref r0), some (.int l1), some (.int l2), some (.int l3), some (.int l4)] [.int v5] g5 P
  exact sw_if_eq dX10_greatestPart_24 (by decide) (fun q => (kt q)) (fun q => (kf q))
theorem b_X10_greatestPart_27 {r0 : Nat} {l1 : Int32} {l2 : Int32} {l3 : Int32} {l4 : Int32} {v6 : Int32} {g6 : ab_H} {fs6 : List Value} {v8 : Int32} {g8 : ab_H} {fs8 : List Value} {v9 : Int32} {g9 : ab_H} (hr6 : (h)[r0]? = some (10, fs6)) (hm6 : MSE m_X10_reach d [.ref r0, .int l4, .int l1] h (some (.int v6)) g6) (hr8 : (g6)[r0]? = some (10, fs8)) (hm8 : MSE m_X10_weightOf d [.ref r0, .int v6, .int l2] g6 (some (.int v8)) g8) (hm9 : MSE m_J9_max_7cf53 d [.int l3, .int v8] g8 (some (.int v9)) g9) (k : SW sc m_X10_greatestPart (d + 1) rc rs 44 [some (.ref r0), some (.int l1), some (.int l2), some (.int v9), some (.int l4)] [] g9 P) : SW sc m_X10_greatestPart (d + 1) rc rs 27 [some (.ref r0), some (.int l1), some (.int l2), some (.int l3), some (.int l4)] [] h P := by
  refine sw_iload_n dX10_greatestPart_27 rfl ?_
  refine sw_aload_n dX10_greatestPart_28 rfl ?_
  refine sw_aload_n dX10_greatestPart_29 rfl ?_
  refine sw_iload dX10_greatestPart_30 rfl ?_
  refine sw_iload_n dX10_greatestPart_32 rfl ?_
  refine sw_cV dX10_greatestPart_33 lv_X10_77 hm6 hr6 rfl (by decide) rfl rfl rfl (Nat.le_of_ble_eq_true rfl) (fun _ _ => rfl) rfl ?_
  show SW sc m_X10_greatestPart _ _ _ 36 [some (.ref r0), some (.int l1), some (.int l2), some (.int l3), some (.int l4)] [.int v6, .ref r0, .int l3] g6 P
  refine sw_iload_n dX10_greatestPart_36 rfl ?_
  refine sw_cV dX10_greatestPart_37 lv_X10_98 hm8 hr8 rfl (by decide) rfl rfl rfl (Nat.le_of_ble_eq_true rfl) (fun _ _ => rfl) rfl ?_
  show SW sc m_X10_greatestPart _ _ _ 40 [some (.ref r0), some (.int l1), some (.int l2), some (.int l3), some (.int l4)] [.int v8, .int l3] g8 P
  refine sw_cS dX10_greatestPart_40 ls_X10_93 hm9 rfl rfl (Nat.le_of_ble_eq_true rfl) (fun _ _ => rfl) rfl ?_
  show SW sc m_X10_greatestPart _ _ _ 43 [some (.ref r0), some (.int l1), some (.int l2), some (.int l3), some (.int l4)] [.int v9] g9 P
  refine sw_istore_n dX10_greatestPart_43 (by decide) rfl ?_
  show SW sc m_X10_greatestPart _ _ _ 44 [some (.ref r0), some (.int l1), some (.int l2), some (.int v9), some (.int l4)] [] g9 P
  exact (k)
theorem b_X10_greatestPart_44 {r0 : Nat} {l1 : Int32} {l2 : Int32} {l3 : Int32} {l4 : Int32} (k : SW sc m_X10_greatestPart d rc rs 5 [some (.ref r0), some (.int l1), some (.int l2), some (.int l3), some (.int (l4 + 1))] [] h P) : SW sc m_X10_greatestPart d rc rs 44 [some (.ref r0), some (.int l1), some (.int l2), some (.int l3), some (.int l4)] [] h P := by
  refine sw_iinc (v := l4 + 1) dX10_greatestPart_44 rfl rfl (by decide) rfl ?_
  show SW sc m_X10_greatestPart _ _ _ 47 [some (.ref r0), some (.int l1), some (.int l2), some (.int l3), some (.int (l4 + 1))] [] h P
  exact sw_goto dX10_greatestPart_47 (by decide) (k)
theorem b_X10_greatestPart_50 {l3 : Int32} (hP : P (.inl (some (.int l3))) h) : SW sc m_X10_greatestPart d rc rs 50 [none, none, none, some (.int l3), none] [] h P := by
  refine sw_iload_n dX10_greatestPart_50 rfl ?_
  exact sw_ret (v := (some (.int l3))) dX10_greatestPart_51 rt_i hP
theorem b_X10_measure_0 {r0 : Nat} {l1 : Int32} {l2 : Int32} (kt : ¬ l2 = 0 → SW sc m_X10_measure d rc rs 12 [some (.ref r0), some (.int l1), some (.int l2)] [] h P) (kf : l2 = 0 → SW sc m_X10_measure d rc rs 4 [some (.ref r0), some (.int l1), none] [] h P) : SW sc m_X10_measure d rc rs 0 [some (.ref r0), some (.int l1), some (.int l2)] [] h P := by
  refine sw_iload_n dX10_measure_0 rfl ?_
  exact sw_if_ne dX10_measure_1 (by decide) (fun q => (kt q)) (fun q => (sw_fg [false, false, true] rfl (kf q)))
theorem b_X10_measure_4 {r0 : Nat} {l1 : Int32} {v3 : Int32} {g3 : ab_H} {fs3 : List Value} (hr3 : (h)[r0]? = some (10, fs3)) (hm3 : MSE m_X10_eccentricity d [.ref r0, .int l1] h (some (.int v3)) g3) (k : SW sc m_X10_measure (d + 1) rc rs 27 [none, none, none] [.int v3] g3 P) : SW sc m_X10_measure (d + 1) rc rs 4 [some (.ref r0), some (.int l1), none] [] h P := by
  refine sw_aload_n dX10_measure_4 rfl ?_
  refine sw_iload_n dX10_measure_5 rfl ?_
  refine sw_cV dX10_measure_6 lv_X10_102 hm3 hr3 rfl (by decide) rfl rfl rfl (Nat.le_of_ble_eq_true rfl) (fun _ _ => rfl) rfl ?_
  show SW sc m_X10_measure _ _ _ 9 [some (.ref r0), some (.int l1), none] [.int v3] g3 P
  exact sw_goto dX10_measure_9 (by decide) (sw_fg [true, true, false] rfl (k))
theorem b_X10_measure_12 {r0 : Nat} {l1 : Int32} {l2 : Int32} (kt : ¬ l2 = 2 → SW sc m_X10_measure d rc rs 23 [none, none, none] [.int l1, .ref r0] h P) (kf : l2 = 2 → SW sc m_X10_measure d rc rs 19 [none, none, none] [.int l1, .ref r0] h P) : SW sc m_X10_measure d rc rs 12 [some (.ref r0), some (.int l1), some (.int l2)] [] h P := by
  refine sw_aload_n dX10_measure_12 rfl ?_
  refine sw_iload_n dX10_measure_13 rfl ?_
  refine sw_iload_n dX10_measure_14 rfl ?_
  refine sw_iconst (v := 2) dX10_measure_15 (by decide) ?_
  exact sw_icmp_ne dX10_measure_16 (by decide) (fun q => (sw_fg [true, true, true] rfl (kt q))) (fun q => (sw_fg [true, true, true] rfl (kf q)))
theorem b_X10_measure_19 {q0 : Nat} {s1 : Int32} (k : SW sc m_X10_measure d rc rs 24 [none, none, none] [.int 1, .int s1, .ref q0] h P) : SW sc m_X10_measure d rc rs 19 [none, none, none] [.int s1, .ref q0] h P := by
  refine sw_iconst (v := 1) dX10_measure_19 (by decide) ?_
  exact sw_goto dX10_measure_20 (by decide) (k)
theorem b_X10_measure_23 {q0 : Nat} {s1 : Int32} (k : SW sc m_X10_measure d rc rs 24 [none, none, none] [.int 0, .int s1, .ref q0] h P) : SW sc m_X10_measure d rc rs 23 [none, none, none] [.int s1, .ref q0] h P := by
  refine sw_iconst (v := 0) dX10_measure_23 (by decide) ?_
  exact (k)
theorem b_X10_measure_24 {q0 : Nat} {s1 : Int32} {s2 : Int32} {v1 : Int32} {g1 : ab_H} {fs1 : List Value} (hr1 : (h)[q0]? = some (10, fs1)) (hm1 : MSE m_X10_greatestPart d [.ref q0, .int s1, .int s2] h (some (.int v1)) g1) (k : SW sc m_X10_measure (d + 1) rc rs 27 [none, none, none] [.int v1] g1 P) : SW sc m_X10_measure (d + 1) rc rs 24 [none, none, none] [.int s2, .int s1, .ref q0] h P := by
  refine sw_cV dX10_measure_24 lv_X10_105 hm1 hr1 rfl (by decide) rfl rfl rfl (Nat.le_of_ble_eq_true rfl) (fun _ _ => rfl) rfl ?_
  show SW sc m_X10_measure _ _ _ 27 [none, none, none] [.int v1] g1 P
  exact (k)
theorem b_X10_measure_27 {s0 : Int32} (hP : P (.inl (some (.int s0))) h) : SW sc m_X10_measure d rc rs 27 [none, none, none] [.int s0] h P := by
  exact sw_ret (v := (some (.int s0))) dX10_measure_27 rt_i hP
theorem b_X10_leastOf_0 {r0 : Nat} {l1 : Int32} {l2 : Int32} (k : SW sc m_X10_leastOf d rc rs 8 [some (.ref r0), some (.int l1), some (.int l2), some (.int 0), some (.int 0), some (.int 0), none] [] h P) : SW sc m_X10_leastOf d rc rs 0 [some (.ref r0), some (.int l1), some (.int l2), none, none, none, none] [] h P := by
  refine sw_iconst (v := 0) dX10_leastOf_0 (by decide) ?_
  refine sw_istore_n dX10_leastOf_1 (by decide) rfl ?_
  show SW sc m_X10_leastOf _ _ _ 2 [some (.ref r0), some (.int l1), some (.int l2), some (.int 0), none, none, none] [] h P
  refine sw_iconst (v := 0) dX10_leastOf_2 (by decide) ?_
  refine sw_istore dX10_leastOf_3 (by decide) rfl ?_
  show SW sc m_X10_leastOf _ _ _ 5 [some (.ref r0), some (.int l1), some (.int l2), some (.int 0), some (.int 0), none, none] [] h P
  refine sw_iconst (v := 0) dX10_leastOf_5 (by decide) ?_
  refine sw_istore dX10_leastOf_6 (by decide) rfl ?_
  show SW sc m_X10_leastOf _ _ _ 8 [some (.ref r0), some (.int l1), some (.int l2), some (.int 0), some (.int 0), some (.int 0), none] [] h P
  exact (k)
theorem b_X10_leastOf_8 {r0 : Nat} {l1 : Int32} {l2 : Int32} {l3 : Int32} {l4 : Int32} {l5 : Int32} {v3 : Int32} {g3 : ab_H} {fs3 : List Value} (hr3 : (h)[r0]? = some (10, fs3)) (hm3 : MSE m_X10_many d [.ref r0] h (some (.int v3)) g3) (kt : v3 ≤ l5 → SW sc m_X10_leastOf (d + 1) rc rs 81 [none, none, none, some (.int l3), none, none, none] [] g3 P) (kf : ¬ (v3 ≤ l5) → SW sc m_X10_leastOf (d + 1) rc rs 17 [some (.ref r0), some (.int l1), some (.int l2), some (.int l3), some (.int l4), some (.int l5), none] [] g3 P) : SW sc m_X10_leastOf (d + 1) rc rs 8 [some (.ref r0), some (.int l1), some (.int l2), some (.int l3), some (.int l4), some (.int l5), none] [] h P := by
  refine sw_iload dX10_leastOf_8 rfl ?_
  refine sw_aload_n dX10_leastOf_10 rfl ?_
  refine sw_cV dX10_leastOf_11 lv_X10_66 hm3 hr3 rfl (by decide) rfl rfl rfl (Nat.le_of_ble_eq_true rfl) (fun _ _ => rfl) rfl ?_
  show SW sc m_X10_leastOf _ _ _ 14 [some (.ref r0), some (.int l1), some (.int l2), some (.int l3), some (.int l4), some (.int l5), none] [.int v3, .int l5] g3 P
  exact sw_icmp_ge dX10_leastOf_14 (by decide) (fun q => (sw_fg [true, true, true, false, true, true, false] rfl (kt q))) (fun q => (kf q))
theorem b_X10_leastOf_17 {r0 : Nat} {l1 : Int32} {l2 : Int32} {l3 : Int32} {l4 : Int32} {l5 : Int32} {v3 : Int32} {g3 : ab_H} (hm3 : MSE m_X10_has d [.int l1, .int l5] h (some (.int v3)) g3) (kt : ¬ v3 = 0 → SW sc m_X10_leastOf (d + 1) rc rs 29 [some (.ref r0), some (.int l1), some (.int l2), some (.int l3), some (.int l4), some (.int l5), none] [] g3 P) (kf : v3 = 0 → SW sc m_X10_leastOf (d + 1) rc rs 26 [some (.ref r0), some (.int l1), some (.int l2), some (.int l3), some (.int l4), some (.int l5), none] [] g3 P) : SW sc m_X10_leastOf (d + 1) rc rs 17 [some (.ref r0), some (.int l1), some (.int l2), some (.int l3), some (.int l4), some (.int l5), none] [] h P := by
  refine sw_iload_n dX10_leastOf_17 rfl ?_
  refine sw_iload dX10_leastOf_18 rfl ?_
  refine sw_cS dX10_leastOf_20 ls_X10_70 hm3 rfl rfl (Nat.le_of_ble_eq_true rfl) (fun _ _ => rfl) rfl ?_
  show SW sc m_X10_leastOf _ _ _ 23 [some (.ref r0), some (.int l1), some (.int l2), some (.int l3), some (.int l4), some (.int l5), none] [.int v3] g3 P
  exact sw_if_ne dX10_leastOf_23 (by decide) (fun q => (kt q)) (fun q => (kf q))
theorem b_X10_leastOf_26 {r0 : Nat} {l1 : Int32} {l2 : Int32} {l3 : Int32} {l4 : Int32} {l5 : Int32} (k : SW sc m_X10_leastOf d rc rs 75 [some (.ref r0), some (.int l1), some (.int l2), some (.int l3), some (.int l4), some (.int l5), none] [] h P) : SW sc m_X10_leastOf d rc rs 26 [some (.ref r0), some (.int l1), some (.int l2), some (.int l3), some (.int l4), some (.int l5), none] [] h P := by
  exact sw_goto dX10_leastOf_26 (by decide) (k)
theorem b_X10_leastOf_29 {r0 : Nat} {l1 : Int32} {l2 : Int32} {l3 : Int32} {l4 : Int32} {l5 : Int32} {v4 : Int32} {g4 : ab_H} {fs4 : List Value} (hr4 : (h)[r0]? = some (10, fs4)) (hm4 : MSE m_X10_measure d [.ref r0, .int l5, .int l2] h (some (.int v4)) g4) (kt : l3 = 0 → SW sc m_X10_leastOf (d + 1) rc rs 49 [some (.ref r0), some (.int l1), some (.int l2), none, none, some (.int l5), some (.int v4)] [] g4 P) (kf : ¬ (l3 = 0) → SW sc m_X10_leastOf (d + 1) rc rs 42 [some (.ref r0), some (.int l1), some (.int l2), some (.int l3), some (.int l4), some (.int l5), some (.int v4)] [] g4 P) : SW sc m_X10_leastOf (d + 1) rc rs 29 [some (.ref r0), some (.int l1), some (.int l2), some (.int l3), some (.int l4), some (.int l5), none] [] h P := by
  refine sw_aload_n dX10_leastOf_29 rfl ?_
  refine sw_iload dX10_leastOf_30 rfl ?_
  refine sw_iload_n dX10_leastOf_32 rfl ?_
  refine sw_cV dX10_leastOf_33 lv_X10_108 hm4 hr4 rfl (by decide) rfl rfl rfl (Nat.le_of_ble_eq_true rfl) (fun _ _ => rfl) rfl ?_
  show SW sc m_X10_leastOf _ _ _ 36 [some (.ref r0), some (.int l1), some (.int l2), some (.int l3), some (.int l4), some (.int l5), none] [.int v4] g4 P
  refine sw_istore dX10_leastOf_36 (by decide) rfl ?_
  show SW sc m_X10_leastOf _ _ _ 38 [some (.ref r0), some (.int l1), some (.int l2), some (.int l3), some (.int l4), some (.int l5), some (.int v4)] [] g4 P
  refine sw_iload_n dX10_leastOf_38 rfl ?_
  exact sw_if_eq dX10_leastOf_39 (by decide) (fun q => (sw_fg [false, false, false, true, true, false, false] rfl (kt q))) (fun q => (kf q))
theorem b_X10_leastOf_42 {r0 : Nat} {l1 : Int32} {l2 : Int32} {l3 : Int32} {l4 : Int32} {l5 : Int32} {l6 : Int32} (kt : l4 ≤ l6 → SW sc m_X10_leastOf d rc rs 61 [some (.ref r0), some (.int l1), some (.int l2), some (.int l3), some (.int l4), some (.int l5), some (.int l6)] [] h P) (kf : ¬ (l4 ≤ l6) → SW sc m_X10_leastOf d rc rs 49 [some (.ref r0), some (.int l1), some (.int l2), none, none, some (.int l5), some (.int l6)] [] h P) : SW sc m_X10_leastOf d rc rs 42 [some (.ref r0), some (.int l1), some (.int l2), some (.int l3), some (.int l4), some (.int l5), some (.int l6)] [] h P := by
  refine sw_iload dX10_leastOf_42 rfl ?_
  refine sw_iload dX10_leastOf_44 rfl ?_
  exact sw_icmp_ge dX10_leastOf_46 (by decide) (fun q => (kt q)) (fun q => (sw_fg [false, false, false, true, true, false, false] rfl (kf q)))
theorem b_X10_leastOf_49 {r0 : Nat} {l1 : Int32} {l2 : Int32} {l5 : Int32} {l6 : Int32} (k : SW sc m_X10_leastOf d rc rs 75 [some (.ref r0), some (.int l1), some (.int l2), some (.int (1 <<< (l5 &&& 31))), some (.int l6), some (.int l5), none] [] h P) : SW sc m_X10_leastOf d rc rs 49 [some (.ref r0), some (.int l1), some (.int l2), none, none, some (.int l5), some (.int l6)] [] h P := by
  refine sw_iconst (v := 1) dX10_leastOf_49 (by decide) ?_
  refine sw_iload dX10_leastOf_50 rfl ?_
  refine sw_ishl dX10_leastOf_52 ?_
  refine sw_istore_n dX10_leastOf_53 (by decide) rfl ?_
  show SW sc m_X10_leastOf _ _ _ 54 [some (.ref r0), some (.int l1), some (.int l2), some (.int (1 <<< (l5 &&& 31))), none, some (.int l5), some (.int l6)] [] h P
  refine sw_iload dX10_leastOf_54 rfl ?_
  refine sw_istore dX10_leastOf_56 (by decide) rfl ?_
  show SW sc m_X10_leastOf _ _ _ 58 [some (.ref r0), some (.int l1), some (.int l2), some (.int (1 <<< (l5 &&& 31))), some (.int l6), some (.int l5), some (.int l6)] [] h P
  exact sw_goto dX10_leastOf_58 (by decide) (sw_fg [false, false, false, false, false, false, true] rfl (k))
theorem b_X10_leastOf_61 {r0 : Nat} {l1 : Int32} {l2 : Int32} {l3 : Int32} {l4 : Int32} {l5 : Int32} {l6 : Int32} (kt : ¬ l6 = l4 → SW sc m_X10_leastOf d rc rs 75 [some (.ref r0), some (.int l1), some (.int l2), some (.int l3), some (.int l4), some (.int l5), none] [] h P) (kf : l6 = l4 → SW sc m_X10_leastOf d rc rs 68 [some (.ref r0), some (.int l1), some (.int l2), some (.int l3), some (.int l4), some (.int l5), none] [] h P) : SW sc m_X10_leastOf d rc rs 61 [some (.ref r0), some (.int l1), some (.int l2), some (.int l3), some (.int l4), some (.int l5), some (.int l6)] [] h P := by
  refine sw_iload dX10_leastOf_61 rfl ?_
  refine sw_iload dX10_leastOf_63 rfl ?_
  exact sw_icmp_ne dX10_leastOf_65 (by decide) (fun q => (sw_fg [false, false, false, false, false, false, true] rfl (kt q))) (fun q => (sw_fg [false, false, false, false, false, false, true] rfl (kf q)))
theorem b_X10_leastOf_68 {r0 : Nat} {l1 : Int32} {l2 : Int32} {l3 : Int32} {l4 : Int32} {l5 : Int32} (k : SW sc m_X10_leastOf d rc rs 75 [some (.ref r0), some (.int l1), some (.int l2), some (.int (l3 ||| (1 <<< (l5 &&& 31)))), some (.int l4), some (.int l5), none] [] h P) : SW sc m_X10_leastOf d rc rs 68 [some (.ref r0), some (.int l1), some (.int l2), some (.int l3), some (.int l4), some (.int l5), none] [] h P := by
  refine sw_iload_n dX10_leastOf_68 rfl ?_
  refine sw_iconst (v := 1) dX10_leastOf_69 (by decide) ?_
  refine sw_iload dX10_leastOf_70 rfl ?_
  refine sw_ishl dX10_leastOf_72 ?_
  refine sw_ior dX10_leastOf_73 ?_
  refine sw_istore_n dX10_leastOf_74 (by decide) rfl ?_
  show SW sc m_X10_leastOf _ _ _ 75 [some (.ref r0), some (.int l1), some (.int l2), some (.int (l3 ||| (1 <<< (l5 &&& 31)))), some (.int l4), some (.int l5), none] [] h P
  exact (k)
theorem b_X10_leastOf_75 {r0 : Nat} {l1 : Int32} {l2 : Int32} {l3 : Int32} {l4 : Int32} {l5 : Int32} (k : SW sc m_X10_leastOf d rc rs 8 [some (.ref r0), some (.int l1), some (.int l2), some (.int l3), some (.int l4), some (.int (l5 + 1)), none] [] h P) : SW sc m_X10_leastOf d rc rs 75 [some (.ref r0), some (.int l1), some (.int l2), some (.int l3), some (.int l4), some (.int l5), none] [] h P := by
  refine sw_iinc (v := l5 + 1) dX10_leastOf_75 rfl rfl (by decide) rfl ?_
  show SW sc m_X10_leastOf _ _ _ 78 [some (.ref r0), some (.int l1), some (.int l2), some (.int l3), some (.int l4), some (.int (l5 + 1)), none] [] h P
  exact sw_goto dX10_leastOf_78 (by decide) (k)
theorem b_X10_leastOf_81 {l3 : Int32} (hP : P (.inl (some (.int l3))) h) : SW sc m_X10_leastOf d rc rs 81 [none, none, none, some (.int l3), none, none, none] [] h P := by
  refine sw_iload_n dX10_leastOf_81 rfl ?_
  exact sw_ret (v := (some (.int l3))) dX10_leastOf_82 rt_i hP
theorem b_X10_diameter_0 {r0 : Nat} {l1 : Int32} (k : SW sc m_X10_diameter d rc rs 4 [some (.ref r0), some (.int l1), some (.int 0), some (.int 0)] [] h P) : SW sc m_X10_diameter d rc rs 0 [some (.ref r0), some (.int l1), none, none] [] h P := by
  refine sw_iconst (v := 0) dX10_diameter_0 (by decide) ?_
  refine sw_istore_n dX10_diameter_1 (by decide) rfl ?_
  show SW sc m_X10_diameter _ _ _ 2 [some (.ref r0), some (.int l1), some (.int 0), none] [] h P
  refine sw_iconst (v := 0) dX10_diameter_2 (by decide) ?_
  refine sw_istore_n dX10_diameter_3 (by decide) rfl ?_
  show SW sc m_X10_diameter _ _ _ 4 [some (.ref r0), some (.int l1), some (.int 0), some (.int 0)] [] h P
  exact (k)
theorem b_X10_diameter_4 {r0 : Nat} {l1 : Int32} {l2 : Int32} {l3 : Int32} {v3 : Int32} {g3 : ab_H} {fs3 : List Value} (hr3 : (h)[r0]? = some (10, fs3)) (hm3 : MSE m_X10_many d [.ref r0] h (some (.int v3)) g3) (kt : v3 ≤ l3 → SW sc m_X10_diameter (d + 1) rc rs 36 [none, none, some (.int l2), none] [] g3 P) (kf : ¬ (v3 ≤ l3) → SW sc m_X10_diameter (d + 1) rc rs 12 [some (.ref r0), some (.int l1), some (.int l2), some (.int l3)] [] g3 P) : SW sc m_X10_diameter (d + 1) rc rs 4 [some (.ref r0), some (.int l1), some (.int l2), some (.int l3)] [] h P := by
  refine sw_iload_n dX10_diameter_4 rfl ?_
  refine sw_aload_n dX10_diameter_5 rfl ?_
  refine sw_cV dX10_diameter_6 lv_X10_66 hm3 hr3 rfl (by decide) rfl rfl rfl (Nat.le_of_ble_eq_true rfl) (fun _ _ => rfl) rfl ?_
  show SW sc m_X10_diameter _ _ _ 9 [some (.ref r0), some (.int l1), some (.int l2), some (.int l3)] [.int v3, .int l3] g3 P
  exact sw_icmp_ge dX10_diameter_9 (by decide) (fun q => (sw_fg [true, true, false, true] rfl (kt q))) (fun q => (kf q))
theorem b_X10_diameter_12 {r0 : Nat} {l1 : Int32} {l2 : Int32} {l3 : Int32} {v3 : Int32} {g3 : ab_H} (hm3 : MSE m_X10_has d [.int l1, .int l3] h (some (.int v3)) g3) (kt : v3 = 0 → SW sc m_X10_diameter (d + 1) rc rs 30 [some (.ref r0), some (.int l1), some (.int l2), some (.int l3)] [] g3 P) (kf : ¬ (v3 = 0) → SW sc m_X10_diameter (d + 1) rc rs 20 [some (.ref r0), some (.int l1), some (.int l2), some (.int l3)] [] g3 P) : SW sc m_X10_diameter (d + 1) rc rs 12 [some (.ref r0), some (.int l1), some (.int l2), some (.int l3)] [] h P := by
  refine sw_iload_n dX10_diameter_12 rfl ?_
  refine sw_iload_n dX10_diameter_13 rfl ?_
  refine sw_cS dX10_diameter_14 ls_X10_70 hm3 rfl rfl (Nat.le_of_ble_eq_true rfl) (fun _ _ => rfl) rfl ?_
  show SW sc m_X10_diameter _ _ _ 17 [some (.ref r0), some (.int l1), some (.int l2), some (.int l3)] [.int v3] g3 P
  exact sw_if_eq dX10_diameter_17 (by decide) (fun q => (kt q)) (fun q => (kf q))
theorem b_X10_diameter_20 {r0 : Nat} {l1 : Int32} {l2 : Int32} {l3 : Int32} {v4 : Int32} {g4 : ab_H} {fs4 : List Value} {v5 : Int32} {g5 : ab_H} (hr4 : (h)[r0]? = some (10, fs4)) (hm4 : MSE m_X10_eccentricity d [.ref r0, .int l3] h (some (.int v4)) g4) (hm5 : MSE m_J9_max_7cf53 d [.int l2, .int v4] g4 (some (.int v5)) g5) (k : SW sc m_X10_diameter (d + 1) rc rs 30 [some (.ref r0), some (.int l1), some (.int v5), some (.int l3)] [] g5 P) : SW sc m_X10_diameter (d + 1) rc rs 20 [some (.ref r0), some (.int l1), some (.int l2), some (.int l3)] [] h P := by
  refine sw_iload_n dX10_diameter_20 rfl ?_
  refine sw_aload_n dX10_diameter_21 rfl ?_
  refine sw_iload_n dX10_diameter_22 rfl ?_
  refine sw_cV dX10_diameter_23 lv_X10_102 hm4 hr4 rfl (by decide) rfl rfl rfl (Nat.le_of_ble_eq_true rfl) (fun _ _ => rfl) rfl ?_
  show SW sc m_X10_diameter _ _ _ 26 [some (.ref r0), some (.int l1), some (.int l2), some (.int l3)] [.int v4, .int l2] g4 P
  refine sw_cS dX10_diameter_26 ls_X10_93 hm5 rfl rfl (Nat.le_of_ble_eq_true rfl) (fun _ _ => rfl) rfl ?_
  show SW sc m_X10_diameter _ _ _ 29 [some (.ref r0), some (.int l1), some (.int l2), some (.int l3)] [.int v5] g5 P
  refine sw_istore_n dX10_diameter_29 (by decide) rfl ?_
  show SW sc m_X10_diameter _ _ _ 30 [some (.ref r0), some (.int l1), some (.int v5), some (.int l3)] [] g5 P
  exact (k)
theorem b_X10_diameter_30 {r0 : Nat} {l1 : Int32} {l2 : Int32} {l3 : Int32} (k : SW sc m_X10_diameter d rc rs 4 [some (.ref r0), some (.int l1), some (.int l2), some (.int (l3 + 1))] [] h P) : SW sc m_X10_diameter d rc rs 30 [some (.ref r0), some (.int l1), some (.int l2), some (.int l3)] [] h P := by
  refine sw_iinc (v := l3 + 1) dX10_diameter_30 rfl rfl (by decide) rfl ?_
  show SW sc m_X10_diameter _ _ _ 33 [some (.ref r0), some (.int l1), some (.int l2), some (.int (l3 + 1))] [] h P
  exact sw_goto dX10_diameter_33 (by decide) (k)
theorem b_X10_diameter_36 {l2 : Int32} (hP : P (.inl (some (.int l2))) h) : SW sc m_X10_diameter d rc rs 36 [none, none, some (.int l2), none] [] h P := by
  refine sw_iload_n dX10_diameter_36 rfl ?_
  exact sw_ret (v := (some (.int l2))) dX10_diameter_37 rt_i hP
theorem b_X10_leavesIn_0 {r0 : Nat} {l1 : Int32} (k : SW sc m_X10_leavesIn d rc rs 4 [some (.ref r0), some (.int l1), some (.int 0), some (.int 0)] [] h P) : SW sc m_X10_leavesIn d rc rs 0 [some (.ref r0), some (.int l1), none, none] [] h P := by
  refine sw_iconst (v := 0) dX10_leavesIn_0 (by decide) ?_
  refine sw_istore_n dX10_leavesIn_1 (by decide) rfl ?_
  show SW sc m_X10_leavesIn _ _ _ 2 [some (.ref r0), some (.int l1), some (.int 0), none] [] h P
  refine sw_iconst (v := 0) dX10_leavesIn_2 (by decide) ?_
  refine sw_istore_n dX10_leavesIn_3 (by decide) rfl ?_
  show SW sc m_X10_leavesIn _ _ _ 4 [some (.ref r0), some (.int l1), some (.int 0), some (.int 0)] [] h P
  exact (k)
theorem b_X10_leavesIn_4 {r0 : Nat} {l1 : Int32} {l2 : Int32} {l3 : Int32} {v3 : Int32} {g3 : ab_H} {fs3 : List Value} (hr3 : (h)[r0]? = some (10, fs3)) (hm3 : MSE m_X10_many d [.ref r0] h (some (.int v3)) g3) (kt : v3 ≤ l3 → SW sc m_X10_leavesIn (d + 1) rc rs 46 [none, none, some (.int l2), none] [] g3 P) (kf : ¬ (v3 ≤ l3) → SW sc m_X10_leavesIn (d + 1) rc rs 12 [some (.ref r0), some (.int l1), some (.int l2), some (.int l3)] [] g3 P) : SW sc m_X10_leavesIn (d + 1) rc rs 4 [some (.ref r0), some (.int l1), some (.int l2), some (.int l3)] [] h P := by
  refine sw_iload_n dX10_leavesIn_4 rfl ?_
  refine sw_aload_n dX10_leavesIn_5 rfl ?_
  refine sw_cV dX10_leavesIn_6 lv_X10_66 hm3 hr3 rfl (by decide) rfl rfl rfl (Nat.le_of_ble_eq_true rfl) (fun _ _ => rfl) rfl ?_
  show SW sc m_X10_leavesIn _ _ _ 9 [some (.ref r0), some (.int l1), some (.int l2), some (.int l3)] [.int v3, .int l3] g3 P
  exact sw_icmp_ge dX10_leavesIn_9 (by decide) (fun q => (sw_fg [true, true, false, true] rfl (kt q))) (fun q => (kf q))
theorem b_X10_leavesIn_12 {r0 : Nat} {l1 : Int32} {l2 : Int32} {l3 : Int32} {v4 : Int32} {g4 : ab_H} (hm4 : MSE m_X10_has d [.int l1, .int l3] h (some (.int v4)) g4) (kt : v4 = 0 → SW sc m_X10_leavesIn (d + 1) rc rs 37 [some (.ref r0), some (.int l1), none, some (.int l3)] [.int l2] g4 P) (kf : ¬ (v4 = 0) → SW sc m_X10_leavesIn (d + 1) rc rs 21 [some (.ref r0), some (.int l1), none, some (.int l3)] [.int l2] g4 P) : SW sc m_X10_leavesIn (d + 1) rc rs 12 [some (.ref r0), some (.int l1), some (.int l2), some (.int l3)] [] h P := by
  refine sw_iload_n dX10_leavesIn_12 rfl ?_
  refine sw_iload_n dX10_leavesIn_13 rfl ?_
  refine sw_iload_n dX10_leavesIn_14 rfl ?_
  refine sw_cS dX10_leavesIn_15 ls_X10_70 hm4 rfl rfl (Nat.le_of_ble_eq_true rfl) (fun _ _ => rfl) rfl ?_
  show SW sc m_X10_leavesIn _ _ _ 18 [some (.ref r0), some (.int l1), some (.int l2), some (.int l3)] [.int v4, .int l2] g4 P
  exact sw_if_eq dX10_leavesIn_18 (by decide) (fun q => (sw_fg [false, false, true, false] rfl (kt q))) (fun q => (sw_fg [false, false, true, false] rfl (kf q)))
theorem b_X10_leavesIn_21 {r0 : Nat} {l1 : Int32} {l3 : Int32} {s0 : Int32} {v3 : Int32} {g3 : ab_H} {fs3 : List Value} {v4 : Int32} {g4 : ab_H} (hr3 : (h)[r0]? = some (10, fs3)) (hm3 : MSE m_X10_at d [.ref r0, .int l3] h (some (.int v3)) g3) (hm4 : MSE m_X10_ones d [.int v3] g3 (some (.int v4)) g4) (kt : ¬ v4 = 1 → SW sc m_X10_leavesIn (d + 1) rc rs 37 [some (.ref r0), some (.int l1), none, some (.int l3)] [.int s0] g4 P) (kf : v4 = 1 → SW sc m_X10_leavesIn (d + 1) rc rs 33 [some (.ref r0), some (.int l1), none, some (.int l3)] [.int s0] g4 P) : SW sc m_X10_leavesIn (d + 1) rc rs 21 [some (.ref r0), some (.int l1), none, some (.int l3)] [.int s0] h P := by
  refine sw_aload_n dX10_leavesIn_21 rfl ?_
  refine sw_iload_n dX10_leavesIn_22 rfl ?_
  refine sw_cV dX10_leavesIn_23 lv_X10_74 hm3 hr3 rfl (by decide) rfl rfl rfl (Nat.le_of_ble_eq_true rfl) (fun _ _ => rfl) rfl ?_
  show SW sc m_X10_leavesIn _ _ _ 26 [some (.ref r0), some (.int l1), none, some (.int l3)] [.int v3, .int s0] g3 P
  refine sw_cS dX10_leavesIn_26 ls_X10_111 hm4 rfl rfl (Nat.le_of_ble_eq_true rfl) (fun _ _ => rfl) rfl ?_
  show SW sc m_X10_leavesIn _ _ _ 29 [some (.ref r0), some (.int l1), none, some (.int l3)] [.int v4, .int s0] g4 P
  refine sw_iconst (v := 1) dX10_leavesIn_29 (by decide) ?_
  exact sw_icmp_ne dX10_leavesIn_30 (by decide) (fun q => (kt q)) (fun q => (kf q))
theorem b_X10_leavesIn_33 {r0 : Nat} {l1 : Int32} {l3 : Int32} {s0 : Int32} (k : SW sc m_X10_leavesIn d rc rs 38 [some (.ref r0), some (.int l1), none, some (.int l3)] [.int 1, .int s0] h P) : SW sc m_X10_leavesIn d rc rs 33 [some (.ref r0), some (.int l1), none, some (.int l3)] [.int s0] h P := by
  refine sw_iconst (v := 1) dX10_leavesIn_33 (by decide) ?_
  exact sw_goto dX10_leavesIn_34 (by decide) (k)
theorem b_X10_leavesIn_37 {r0 : Nat} {l1 : Int32} {l3 : Int32} {s0 : Int32} (k : SW sc m_X10_leavesIn d rc rs 38 [some (.ref r0), some (.int l1), none, some (.int l3)] [.int 0, .int s0] h P) : SW sc m_X10_leavesIn d rc rs 37 [some (.ref r0), some (.int l1), none, some (.int l3)] [.int s0] h P := by
  refine sw_iconst (v := 0) dX10_leavesIn_37 (by decide) ?_
  exact (k)
theorem b_X10_leavesIn_38 {r0 : Nat} {l1 : Int32} {l3 : Int32} {s0 : Int32} {s1 : Int32} (k : SW sc m_X10_leavesIn d rc rs 4 [some (.ref r0), some (.int l1), some (.int (s0 + s1)), some (.int (l3 + 1))] [] h P) : SW sc m_X10_leavesIn d rc rs 38 [some (.ref r0), some (.int l1), none, some (.int l3)] [.int s1, .int s0] h P := by
  refine sw_iadd dX10_leavesIn_38 ?_
  refine sw_istore_n dX10_leavesIn_39 (by decide) rfl ?_
  show SW sc m_X10_leavesIn _ _ _ 40 [some (.ref r0), some (.int l1), some (.int (s0 + s1)), some (.int l3)] [] h P
  refine sw_iinc (v := l3 + 1) dX10_leavesIn_40 rfl rfl (by decide) rfl ?_
  show SW sc m_X10_leavesIn _ _ _ 43 [some (.ref r0), some (.int l1), some (.int (s0 + s1)), some (.int (l3 + 1))] [] h P
  exact sw_goto dX10_leavesIn_43 (by decide) (k)
theorem b_X10_leavesIn_46 {l2 : Int32} (hP : P (.inl (some (.int l2))) h) : SW sc m_X10_leavesIn d rc rs 46 [none, none, some (.int l2), none] [] h P := by
  refine sw_iload_n dX10_leavesIn_46 rfl ?_
  exact sw_ret (v := (some (.int l2))) dX10_leavesIn_47 rt_i hP
theorem b_X10_isLess_0 {l0 : Int32} {l1 : Int32} {v5 : Int32} {g5 : ab_H} {v13 : Int32} {g13 : ab_H} (hm5 : MSE m_X10_ones d [.int l0] h (some (.int v5)) g5) (hm13 : MSE m_X10_ones d [.int l1] g5 (some (.int v13)) g13) (kt : (l1 <<< ((20 - (2 * v13)) &&& 31)) ≤ (l0 <<< ((20 - (2 * v5)) &&& 31)) → SW sc m_X10_isLess (d + 1) rc rs 29 [none, none] [] g13 P) (kf : ¬ ((l1 <<< ((20 - (2 * v13)) &&& 31)) ≤ (l0 <<< ((20 - (2 * v5)) &&& 31))) → SW sc m_X10_isLess (d + 1) rc rs 25 [none, none] [] g13 P) : SW sc m_X10_isLess (d + 1) rc rs 0 [some (.int l0), some (.int l1)] [] h P := by
  refine sw_iload_n dX10_isLess_0 rfl ?_
  refine sw_bipush (v := 20) dX10_isLess_1 (by decide) ?_
  refine sw_iconst (v := 2) dX10_isLess_3 (by decide) ?_
  refine sw_iload_n dX10_isLess_4 rfl ?_
  refine sw_cS dX10_isLess_5 ls_X10_111 hm5 rfl rfl (Nat.le_of_ble_eq_true rfl) (fun _ _ => rfl) rfl ?_
  show SW sc m_X10_isLess _ _ _ 8 [some (.int l0), some (.int l1)] [.int v5, .int 2, .int 20, .int l0] g5 P
  refine sw_imul dX10_isLess_8 ?_
  refine sw_isub dX10_isLess_9 ?_
  refine sw_ishl dX10_isLess_10 ?_
  refine sw_iload_n dX10_isLess_11 rfl ?_
  refine sw_bipush (v := 20) dX10_isLess_12 (by decide) ?_
  refine sw_iconst (v := 2) dX10_isLess_14 (by decide) ?_
  refine sw_iload_n dX10_isLess_15 rfl ?_
  refine sw_cS dX10_isLess_16 ls_X10_111 hm13 rfl rfl (Nat.le_of_ble_eq_true rfl) (fun _ _ => rfl) rfl ?_
  show SW sc m_X10_isLess _ _ _ 19 [some (.int l0), some (.int l1)] [.int v13, .int 2, .int 20, .int l1, .int (l0 <<< ((20 - (2 * v5)) &&& 31))] g13 P
  refine sw_imul dX10_isLess_19 ?_
  refine sw_isub dX10_isLess_20 ?_
  refine sw_ishl dX10_isLess_21 ?_
  exact sw_icmp_ge dX10_isLess_22 (by decide) (fun q => (sw_fg [true, true] rfl (kt q))) (fun q => (sw_fg [true, true] rfl (kf q)))
theorem b_X10_isLess_25  (k : SW sc m_X10_isLess d rc rs 30 [none, none] [.int 1] h P) : SW sc m_X10_isLess d rc rs 25 [none, none] [] h P := by
  refine sw_iconst (v := 1) dX10_isLess_25 (by decide) ?_
  exact sw_goto dX10_isLess_26 (by decide) (k)
theorem b_X10_isLess_29  (k : SW sc m_X10_isLess d rc rs 30 [none, none] [.int 0] h P) : SW sc m_X10_isLess d rc rs 29 [none, none] [] h P := by
  refine sw_iconst (v := 0) dX10_isLess_29 (by decide) ?_
  exact (k)
theorem b_X10_isLess_30 {s0 : Int32} (hz1 : narrow .boolean (.int s0) = .int s0) (hP : P (.inl (some (.int s0))) h) : SW sc m_X10_isLess d rc rs 30 [none, none] [.int s0] h P := by
  exact sw_ret (v := (some (.int s0))) dX10_isLess_30 (rt_n hz1) hP
theorem b_X10_wordOf_0 {r0 : Nat} {l1 : Int32} {l2 : Int32} {l3 : Int32} (k : SW sc m_X10_wordOf d rc rs 12 [some (.ref r0), some (.int l1), some (.int l2), some (.int l3), some (.int (11 * l3)), some (.int 0), some (.int 0), none, none] [] h P) : SW sc m_X10_wordOf d rc rs 0 [some (.ref r0), some (.int l1), some (.int l2), some (.int l3), none, none, none, none, none] [] h P := by
  refine sw_bipush (v := 11) dX10_wordOf_0 (by decide) ?_
  refine sw_iload_n dX10_wordOf_2 rfl ?_
  refine sw_imul dX10_wordOf_3 ?_
  refine sw_istore dX10_wordOf_4 (by decide) rfl ?_
  show SW sc m_X10_wordOf _ _ _ 6 [some (.ref r0), some (.int l1), some (.int l2), some (.int l3), some (.int (11 * l3)), none, none, none, none] [] h P
  refine sw_iconst (v := 0) dX10_wordOf_6 (by decide) ?_
  refine sw_istore dX10_wordOf_7 (by decide) rfl ?_
  show SW sc m_X10_wordOf _ _ _ 9 [some (.ref r0), some (.int l1), some (.int l2), some (.int l3), some (.int (11 * l3)), some (.int 0), none, none, none] [] h P
  refine sw_iconst (v := 0) dX10_wordOf_9 (by decide) ?_
  refine sw_istore dX10_wordOf_10 (by decide) rfl ?_
  show SW sc m_X10_wordOf _ _ _ 12 [some (.ref r0), some (.int l1), some (.int l2), some (.int l3), some (.int (11 * l3)), some (.int 0), some (.int 0), none, none] [] h P
  exact (k)
theorem b_X10_wordOf_12 {r0 : Nat} {l1 : Int32} {l2 : Int32} {l3 : Int32} {l4 : Int32} {l5 : Int32} {l6 : Int32} {v3 : Int32} {g3 : ab_H} {fs3 : List Value} (hr3 : (h)[r0]? = some (10, fs3)) (hm3 : MSE m_X10_many d [.ref r0] h (some (.int v3)) g3) (kt : v3 ≤ l6 → SW sc m_X10_wordOf (d + 1) rc rs 133 [some (.ref r0), none, none, none, some (.int l4), some (.int l5), none, none, none] [] g3 P) (kf : ¬ (v3 ≤ l6) → SW sc m_X10_wordOf (d + 1) rc rs 21 [some (.ref r0), some (.int l1), some (.int l2), some (.int l3), some (.int l4), some (.int l5), some (.int l6), none, none] [] g3 P) : SW sc m_X10_wordOf (d + 1) rc rs 12 [some (.ref r0), some (.int l1), some (.int l2), some (.int l3), some (.int l4), some (.int l5), some (.int l6), none, none] [] h P := by
  refine sw_iload dX10_wordOf_12 rfl ?_
  refine sw_aload_n dX10_wordOf_14 rfl ?_
  refine sw_cV dX10_wordOf_15 lv_X10_66 hm3 hr3 rfl (by decide) rfl rfl rfl (Nat.le_of_ble_eq_true rfl) (fun _ _ => rfl) rfl ?_
  show SW sc m_X10_wordOf _ _ _ 18 [some (.ref r0), some (.int l1), some (.int l2), some (.int l3), some (.int l4), some (.int l5), some (.int l6), none, none] [.int v3, .int l6] g3 P
  exact sw_icmp_ge dX10_wordOf_18 (by decide) (fun q => (sw_fg [false, true, true, true, false, false, true, false, false] rfl (kt q))) (fun q => (kf q))
theorem b_X10_wordOf_21 {r0 : Nat} {l1 : Int32} {l2 : Int32} {l3 : Int32} {l4 : Int32} {l5 : Int32} {l6 : Int32} {v3 : Int32} {g3 : ab_H} {fs3 : List Value} {v5 : Int32} {g5 : ab_H} (hr3 : (h)[r0]? = some (10, fs3)) (hm3 : MSE m_X10_at d [.ref r0, .int l1] h (some (.int v3)) g3) (hm5 : MSE m_X10_has d [.int v3, .int l6] g3 (some (.int v5)) g5) (kt : v5 = 0 → SW sc m_X10_wordOf (d + 1) rc rs 127 [some (.ref r0), some (.int l1), some (.int l2), some (.int l3), some (.int l4), some (.int l5), some (.int l6), none, none] [] g5 P) (kf : ¬ (v5 = 0) → SW sc m_X10_wordOf (d + 1) rc rs 34 [some (.ref r0), some (.int l1), some (.int l2), some (.int l3), some (.int l4), some (.int l5), some (.int l6), none, none] [] g5 P) : SW sc m_X10_wordOf (d + 1) rc rs 21 [some (.ref r0), some (.int l1), some (.int l2), some (.int l3), some (.int l4), some (.int l5), some (.int l6), none, none] [] h P := by
  refine sw_aload_n dX10_wordOf_21 rfl ?_
  refine sw_iload_n dX10_wordOf_22 rfl ?_
  refine sw_cV dX10_wordOf_23 lv_X10_74 hm3 hr3 rfl (by decide) rfl rfl rfl (Nat.le_of_ble_eq_true rfl) (fun _ _ => rfl) rfl ?_
  show SW sc m_X10_wordOf _ _ _ 26 [some (.ref r0), some (.int l1), some (.int l2), some (.int l3), some (.int l4), some (.int l5), some (.int l6), none, none] [.int v3] g3 P
  refine sw_iload dX10_wordOf_26 rfl ?_
  refine sw_cS dX10_wordOf_28 ls_X10_70 hm5 rfl rfl (Nat.le_of_ble_eq_true rfl) (fun _ _ => rfl) rfl ?_
  show SW sc m_X10_wordOf _ _ _ 31 [some (.ref r0), some (.int l1), some (.int l2), some (.int l3), some (.int l4), some (.int l5), some (.int l6), none, none] [.int v5] g5 P
  exact sw_if_eq dX10_wordOf_31 (by decide) (fun q => (kt q)) (fun q => (kf q))
theorem b_X10_wordOf_34 {r0 : Nat} {l1 : Int32} {l2 : Int32} {l3 : Int32} {l4 : Int32} {l5 : Int32} {l6 : Int32} (kt : ¬ l6 = l2 → SW sc m_X10_wordOf d rc rs 43 [some (.ref r0), some (.int l1), some (.int l2), some (.int l3), some (.int l4), some (.int l5), some (.int l6), none, none] [] h P) (kf : l6 = l2 → SW sc m_X10_wordOf d rc rs 40 [some (.ref r0), some (.int l1), some (.int l2), some (.int l3), some (.int l4), some (.int l5), some (.int l6), none, none] [] h P) : SW sc m_X10_wordOf d rc rs 34 [some (.ref r0), some (.int l1), some (.int l2), some (.int l3), some (.int l4), some (.int l5), some (.int l6), none, none] [] h P := by
  refine sw_iload dX10_wordOf_34 rfl ?_
  refine sw_iload_n dX10_wordOf_36 rfl ?_
  exact sw_icmp_ne dX10_wordOf_37 (by decide) (fun q => (kt q)) (fun q => (kf q))
theorem b_X10_wordOf_40 {r0 : Nat} {l1 : Int32} {l2 : Int32} {l3 : Int32} {l4 : Int32} {l5 : Int32} {l6 : Int32} (k : SW sc m_X10_wordOf d rc rs 127 [some (.ref r0), some (.int l1), some (.int l2), some (.int l3), some (.int l4), some (.int l5), some (.int l6), none, none] [] h P) : SW sc m_X10_wordOf d rc rs 40 [some (.ref r0), some (.int l1), some (.int l2), some (.int l3), some (.int l4), some (.int l5), some (.int l6), none, none] [] h P := by
  exact sw_goto dX10_wordOf_40 (by decide) (k)
theorem b_X10_wordOf_43 {r0 : Nat} {l1 : Int32} {l2 : Int32} {l3 : Int32} {l4 : Int32} {l5 : Int32} {l6 : Int32} {v7 : Int32} {g7 : ab_H} {fs7 : List Value} (hr7 : (h)[r0]? = some (10, fs7)) (hm7 : MSE m_X10_wordOf d [.ref r0, .int l6, .int l1, .int (l3 + 1)] h (some (.int v7)) g7) (k : SW sc m_X10_wordOf (d + 1) rc rs 59 [some (.ref r0), some (.int l1), some (.int l2), some (.int l3), some (.int l4), some (.int l5), some (.int l6), some (.int v7), some (.int l5)] [] g7 P) : SW sc m_X10_wordOf (d + 1) rc rs 43 [some (.ref r0), some (.int l1), some (.int l2), some (.int l3), some (.int l4), some (.int l5), some (.int l6), none, none] [] h P := by
  refine sw_aload_n dX10_wordOf_43 rfl ?_
  refine sw_iload dX10_wordOf_44 rfl ?_
  refine sw_iload_n dX10_wordOf_46 rfl ?_
  refine sw_iload_n dX10_wordOf_47 rfl ?_
  refine sw_iconst (v := 1) dX10_wordOf_48 (by decide) ?_
  refine sw_iadd dX10_wordOf_49 ?_
  refine sw_cV dX10_wordOf_50 lv_X10_114 hm7 hr7 rfl (by decide) rfl rfl rfl (Nat.le_of_ble_eq_true rfl) (fun _ _ => rfl) rfl ?_
  show SW sc m_X10_wordOf _ _ _ 53 [some (.ref r0), some (.int l1), some (.int l2), some (.int l3), some (.int l4), some (.int l5), some (.int l6), none, none] [.int v7] g7 P
  refine sw_istore dX10_wordOf_53 (by decide) rfl ?_
  show SW sc m_X10_wordOf _ _ _ 55 [some (.ref r0), some (.int l1), some (.int l2), some (.int l3), some (.int l4), some (.int l5), some (.int l6), some (.int v7), none] [] g7 P
  refine sw_iload dX10_wordOf_55 rfl ?_
  refine sw_istore dX10_wordOf_57 (by decide) rfl ?_
  show SW sc m_X10_wordOf _ _ _ 59 [some (.ref r0), some (.int l1), some (.int l2), some (.int l3), some (.int l4), some (.int l5), some (.int l6), some (.int v7), some (.int l5)] [] g7 P
  exact (k)
theorem b_X10_wordOf_59 {r0 : Nat} {l1 : Int32} {l2 : Int32} {l3 : Int32} {l4 : Int32} {l5 : Int32} {l6 : Int32} {l7 : Int32} {l8 : Int32} (kt : l8 ≤ 0 → SW sc m_X10_wordOf d rc rs 112 [some (.ref r0), some (.int l1), some (.int l2), some (.int l3), some (.int l4), some (.int l5), some (.int l6), some (.int l7), some (.int l8)] [] h P) (kf : ¬ (l8 ≤ 0) → SW sc m_X10_wordOf d rc rs 64 [some (.ref r0), some (.int l1), some (.int l2), some (.int l3), some (.int l4), some (.int l5), some (.int l6), some (.int l7), some (.int l8)] [] h P) : SW sc m_X10_wordOf d rc rs 59 [some (.ref r0), some (.int l1), some (.int l2), some (.int l3), some (.int l4), some (.int l5), some (.int l6), some (.int l7), some (.int l8)] [] h P := by
  refine sw_iload dX10_wordOf_59 rfl ?_
  exact sw_if_le dX10_wordOf_61 (by decide) (fun q => (kt q)) (fun q => (kf q))
theorem b_X10_wordOf_64 {r0 : Nat} {l1 : Int32} {l2 : Int32} {l3 : Int32} {l4 : Int32} {l5 : Int32} {l6 : Int32} {l7 : Int32} {l8 : Int32} {fs3 : List Value} {a3 : Nat} {vs9 : List Value} {x9 : Int32} {v10 : Int32} {g10 : ab_H} (hc3 : (h)[r0]? = some (10, fs3)) (hv3 : fs3[11]? = some (.ref a3)) (hc9 : (h)[a3]? = some (100, vs9)) (ho9 : ¬ ((l4 + l8) - 1) < 0) (hi9 : vs9[((l4 + l8) - 1).toNatClampNeg]? = some (.int x9)) (hm10 : MSE m_X10_isLess d [.int l7, .int x9] h (some (.int v10)) g10) (kt : v10 = 0 → SW sc m_X10_wordOf (d + 1) rc rs 112 [some (.ref r0), some (.int l1), some (.int l2), some (.int l3), some (.int l4), some (.int l5), some (.int l6), some (.int l7), some (.int l8)] [] g10 P) (kf : ¬ (v10 = 0) → SW sc m_X10_wordOf (d + 1) rc rs 84 [some (.ref r0), some (.int l1), some (.int l2), some (.int l3), some (.int l4), some (.int l5), some (.int l6), some (.int l7), some (.int l8)] [] g10 P) : SW sc m_X10_wordOf (d + 1) rc rs 64 [some (.ref r0), some (.int l1), some (.int l2), some (.int l3), some (.int l4), some (.int l5), some (.int l6), some (.int l7), some (.int l8)] [] h P := by
  refine sw_iload dX10_wordOf_64 rfl ?_
  refine sw_aload_n dX10_wordOf_66 rfl ?_
  refine sw_getf dX10_wordOf_67 lf_X10_38 hc3 hv3 ?_
  refine sw_iload dX10_wordOf_70 rfl ?_
  refine sw_iload dX10_wordOf_72 rfl ?_
  refine sw_iadd dX10_wordOf_74 ?_
  refine sw_iconst (v := 1) dX10_wordOf_75 (by decide) ?_
  refine sw_isub dX10_wordOf_76 ?_
  refine sw_iald dX10_wordOf_77 hc9 ho9 hi9 ?_
  refine sw_cS dX10_wordOf_78 ls_X10_118 hm10 rfl rfl (Nat.le_of_ble_eq_true rfl) (fun _ _ => rfl) rfl ?_
  show SW sc m_X10_wordOf _ _ _ 81 [some (.ref r0), some (.int l1), some (.int l2), some (.int l3), some (.int l4), some (.int l5), some (.int l6), some (.int l7), some (.int l8)] [.int v10] g10 P
  exact sw_if_eq dX10_wordOf_81 (by decide) (fun q => (kt q)) (fun q => (kf q))
theorem b_X10_wordOf_84 {r0 : Nat} {l1 : Int32} {l2 : Int32} {l3 : Int32} {l4 : Int32} {l5 : Int32} {l6 : Int32} {l7 : Int32} {l8 : Int32} {fs2 : List Value} {a2 : Nat} {fs7 : List Value} {a7 : Nat} {vs13 : List Value} {x13 : Int32} {vs14 : List Value} (hc2 : (h)[r0]? = some (10, fs2)) (hv2 : fs2[11]? = some (.ref a2)) (hc7 : (h)[r0]? = some (10, fs7)) (hv7 : fs7[11]? = some (.ref a7)) (hc13 : (h)[a7]? = some (100, vs13)) (ho13 : ¬ ((l4 + l8) - 1) < 0) (hi13 : vs13[((l4 + l8) - 1).toNatClampNeg]? = some (.int x13)) (hc14 : (h)[a2]? = some (100, vs14)) (ho14 : ¬ (l4 + l8) < 0) (hl14 : (l4 + l8).toNatClampNeg < vs14.length) (k : SW sc m_X10_wordOf d rc rs 59 [some (.ref r0), some (.int l1), some (.int l2), some (.int l3), some (.int l4), some (.int l5), some (.int l6), some (.int l7), some (.int (l8 + (-1)))] [] ((h).set a2 (100, vs14.set (l4 + l8).toNatClampNeg (.int x13))) P) : SW sc m_X10_wordOf d rc rs 84 [some (.ref r0), some (.int l1), some (.int l2), some (.int l3), some (.int l4), some (.int l5), some (.int l6), some (.int l7), some (.int l8)] [] h P := by
  refine sw_aload_n dX10_wordOf_84 rfl ?_
  refine sw_getf dX10_wordOf_85 lf_X10_38 hc2 hv2 ?_
  refine sw_iload dX10_wordOf_88 rfl ?_
  refine sw_iload dX10_wordOf_90 rfl ?_
  refine sw_iadd dX10_wordOf_92 ?_
  refine sw_aload_n dX10_wordOf_93 rfl ?_
  refine sw_getf dX10_wordOf_94 lf_X10_38 hc7 hv7 ?_
  refine sw_iload dX10_wordOf_97 rfl ?_
  refine sw_iload dX10_wordOf_99 rfl ?_
  refine sw_iadd dX10_wordOf_101 ?_
  refine sw_iconst (v := 1) dX10_wordOf_102 (by decide) ?_
  refine sw_isub dX10_wordOf_103 ?_
  refine sw_iald dX10_wordOf_104 hc13 ho13 hi13 ?_
  refine sw_iast dX10_wordOf_105 hc14 ho14 hl14 ?_
  refine sw_iinc (v := l8 + (-1)) dX10_wordOf_106 rfl rfl (by decide) rfl ?_
  show SW sc m_X10_wordOf _ _ _ 109 [some (.ref r0), some (.int l1), some (.int l2), some (.int l3), some (.int l4), some (.int l5), some (.int l6), some (.int l7), some (.int (l8 + (-1)))] [] ((h).set a2 (100, vs14.set (l4 + l8).toNatClampNeg (.int x13))) P
  exact sw_goto dX10_wordOf_109 (by decide) (k)
theorem b_X10_wordOf_112 {r0 : Nat} {l1 : Int32} {l2 : Int32} {l3 : Int32} {l4 : Int32} {l5 : Int32} {l6 : Int32} {l7 : Int32} {l8 : Int32} {fs2 : List Value} {a2 : Nat} {vs7 : List Value} (hc2 : (h)[r0]? = some (10, fs2)) (hv2 : fs2[11]? = some (.ref a2)) (hc7 : (h)[a2]? = some (100, vs7)) (ho7 : ¬ (l4 + l8) < 0) (hl7 : (l4 + l8).toNatClampNeg < vs7.length) (k : SW sc m_X10_wordOf d rc rs 127 [some (.ref r0), some (.int l1), some (.int l2), some (.int l3), some (.int l4), some (.int (l5 + 1)), some (.int l6), none, none] [] ((h).set a2 (100, vs7.set (l4 + l8).toNatClampNeg (.int l7))) P) : SW sc m_X10_wordOf d rc rs 112 [some (.ref r0), some (.int l1), some (.int l2), some (.int l3), some (.int l4), some (.int l5), some (.int l6), some (.int l7), some (.int l8)] [] h P := by
  refine sw_aload_n dX10_wordOf_112 rfl ?_
  refine sw_getf dX10_wordOf_113 lf_X10_38 hc2 hv2 ?_
  refine sw_iload dX10_wordOf_116 rfl ?_
  refine sw_iload dX10_wordOf_118 rfl ?_
  refine sw_iadd dX10_wordOf_120 ?_
  refine sw_iload dX10_wordOf_121 rfl ?_
  refine sw_iast dX10_wordOf_123 hc7 ho7 hl7 ?_
  refine sw_iinc (v := l5 + 1) dX10_wordOf_124 rfl rfl (by decide) rfl ?_
  show SW sc m_X10_wordOf _ _ _ 127 [some (.ref r0), some (.int l1), some (.int l2), some (.int l3), some (.int l4), some (.int (l5 + 1)), some (.int l6), some (.int l7), some (.int l8)] [] ((h).set a2 (100, vs7.set (l4 + l8).toNatClampNeg (.int l7))) P
  exact (sw_fg [false, false, false, false, false, false, false, true, true] rfl (k))
theorem b_X10_wordOf_127 {r0 : Nat} {l1 : Int32} {l2 : Int32} {l3 : Int32} {l4 : Int32} {l5 : Int32} {l6 : Int32} (k : SW sc m_X10_wordOf d rc rs 12 [some (.ref r0), some (.int l1), some (.int l2), some (.int l3), some (.int l4), some (.int l5), some (.int (l6 + 1)), none, none] [] h P) : SW sc m_X10_wordOf d rc rs 127 [some (.ref r0), some (.int l1), some (.int l2), some (.int l3), some (.int l4), some (.int l5), some (.int l6), none, none] [] h P := by
  refine sw_iinc (v := l6 + 1) dX10_wordOf_127 rfl rfl (by decide) rfl ?_
  show SW sc m_X10_wordOf _ _ _ 130 [some (.ref r0), some (.int l1), some (.int l2), some (.int l3), some (.int l4), some (.int l5), some (.int (l6 + 1)), none, none] [] h P
  exact sw_goto dX10_wordOf_130 (by decide) (k)
theorem b_X10_wordOf_133 {r0 : Nat} {l4 : Int32} {l5 : Int32} (k : SW sc m_X10_wordOf d rc rs 139 [some (.ref r0), none, none, none, some (.int l4), some (.int l5), some (.int 0), some (.int 0), none] [] h P) : SW sc m_X10_wordOf d rc rs 133 [some (.ref r0), none, none, none, some (.int l4), some (.int l5), none, none, none] [] h P := by
  refine sw_iconst (v := 0) dX10_wordOf_133 (by decide) ?_
  refine sw_istore dX10_wordOf_134 (by decide) rfl ?_
  show SW sc m_X10_wordOf _ _ _ 136 [some (.ref r0), none, none, none, some (.int l4), some (.int l5), some (.int 0), none, none] [] h P
  refine sw_iconst (v := 0) dX10_wordOf_136 (by decide) ?_
  refine sw_istore dX10_wordOf_137 (by decide) rfl ?_
  show SW sc m_X10_wordOf _ _ _ 139 [some (.ref r0), none, none, none, some (.int l4), some (.int l5), some (.int 0), some (.int 0), none] [] h P
  exact (k)
theorem b_X10_wordOf_139 {r0 : Nat} {l4 : Int32} {l5 : Int32} {l6 : Int32} {l7 : Int32} (kt : l5 ≤ l7 → SW sc m_X10_wordOf d rc rs 183 [none, none, none, none, none, none, some (.int l6), none, none] [] h P) (kf : ¬ (l5 ≤ l7) → SW sc m_X10_wordOf d rc rs 146 [some (.ref r0), none, none, none, some (.int l4), some (.int l5), some (.int l6), some (.int l7), none] [] h P) : SW sc m_X10_wordOf d rc rs 139 [some (.ref r0), none, none, none, some (.int l4), some (.int l5), some (.int l6), some (.int l7), none] [] h P := by
  refine sw_iload dX10_wordOf_139 rfl ?_
  refine sw_iload dX10_wordOf_141 rfl ?_
  exact sw_icmp_ge dX10_wordOf_143 (by decide) (fun q => (sw_fg [true, false, false, false, true, true, false, true, false] rfl (kt q))) (fun q => (kf q))
theorem b_X10_wordOf_146 {r0 : Nat} {l4 : Int32} {l5 : Int32} {l6 : Int32} {l7 : Int32} {fs4 : List Value} {a4 : Nat} {vs8 : List Value} {x8 : Int32} {v9 : Int32} {g9 : ab_H} {fs13 : List Value} {a13 : Nat} {vs17 : List Value} {x17 : Int32} (hc4 : (h)[r0]? = some (10, fs4)) (hv4 : fs4[11]? = some (.ref a4)) (hc8 : (h)[a4]? = some (100, vs8)) (ho8 : ¬ (l4 + l7) < 0) (hi8 : vs8[(l4 + l7).toNatClampNeg]? = some (.int x8)) (hm9 : MSE m_X10_ones d [.int x8] h (some (.int v9)) g9) (hc13 : (g9)[r0]? = some (10, fs13)) (hv13 : fs13[11]? = some (.ref a13)) (hc17 : (g9)[a13]? = some (100, vs17)) (ho17 : ¬ (l4 + l7) < 0) (hi17 : vs17[(l4 + l7).toNatClampNeg]? = some (.int x17)) (k : SW sc m_X10_wordOf (d + 1) rc rs 139 [some (.ref r0), none, none, none, some (.int l4), some (.int l5), some (.int ((l6 <<< ((2 * v9) &&& 31)) ||| x17)), some (.int (l7 + 1)), none] [] g9 P) : SW sc m_X10_wordOf (d + 1) rc rs 146 [some (.ref r0), none, none, none, some (.int l4), some (.int l5), some (.int l6), some (.int l7), none] [] h P := by
  refine sw_iload dX10_wordOf_146 rfl ?_
  refine sw_iconst (v := 2) dX10_wordOf_148 (by decide) ?_
  refine sw_aload_n dX10_wordOf_149 rfl ?_
  refine sw_getf dX10_wordOf_150 lf_X10_38 hc4 hv4 ?_
  refine sw_iload dX10_wordOf_153 rfl ?_
  refine sw_iload dX10_wordOf_155 rfl ?_
  refine sw_iadd dX10_wordOf_157 ?_
  refine sw_iald dX10_wordOf_158 hc8 ho8 hi8 ?_
  refine sw_cS dX10_wordOf_159 ls_X10_111 hm9 rfl rfl (Nat.le_of_ble_eq_true rfl) (fun _ _ => rfl) rfl ?_
  show SW sc m_X10_wordOf _ _ _ 162 [some (.ref r0), none, none, none, some (.int l4), some (.int l5), some (.int l6), some (.int l7), none] [.int v9, .int 2, .int l6] g9 P
  refine sw_imul dX10_wordOf_162 ?_
  refine sw_ishl dX10_wordOf_163 ?_
  refine sw_aload_n dX10_wordOf_164 rfl ?_
  refine sw_getf dX10_wordOf_165 lf_X10_38 hc13 hv13 ?_
  refine sw_iload dX10_wordOf_168 rfl ?_
  refine sw_iload dX10_wordOf_170 rfl ?_
  refine sw_iadd dX10_wordOf_172 ?_
  refine sw_iald dX10_wordOf_173 hc17 ho17 hi17 ?_
  refine sw_ior dX10_wordOf_174 ?_
  refine sw_istore dX10_wordOf_175 (by decide) rfl ?_
  show SW sc m_X10_wordOf _ _ _ 177 [some (.ref r0), none, none, none, some (.int l4), some (.int l5), some (.int ((l6 <<< ((2 * v9) &&& 31)) ||| x17)), some (.int l7), none] [] g9 P
  refine sw_iinc (v := l7 + 1) dX10_wordOf_177 rfl rfl (by decide) rfl ?_
  show SW sc m_X10_wordOf _ _ _ 180 [some (.ref r0), none, none, none, some (.int l4), some (.int l5), some (.int ((l6 <<< ((2 * v9) &&& 31)) ||| x17)), some (.int (l7 + 1)), none] [] g9 P
  exact sw_goto dX10_wordOf_180 (by decide) (k)
theorem b_X10_wordOf_183 {l6 : Int32} (hP : P (.inl (some (.int ((l6 <<< (1 &&& 31)) ||| 1)))) h) : SW sc m_X10_wordOf d rc rs 183 [none, none, none, none, none, none, some (.int l6), none, none] [] h P := by
  refine sw_iload dX10_wordOf_183 rfl ?_
  refine sw_iconst (v := 1) dX10_wordOf_185 (by decide) ?_
  refine sw_ishl dX10_wordOf_186 ?_
  refine sw_iconst (v := 1) dX10_wordOf_187 (by decide) ?_
  refine sw_ior dX10_wordOf_188 ?_
  exact sw_ret (v := (some (.int ((l6 <<< (1 &&& 31)) ||| 1)))) dX10_wordOf_189 rt_i hP
theorem b_X10_rootWord_0 {r0 : Nat} {l1 : Int32} {v5 : Int32} {g5 : ab_H} {fs5 : List Value} (hr5 : (h)[r0]? = some (10, fs5)) (hm5 : MSE m_X10_wordOf d [.ref r0, .int l1, .int (-1), .int 0] h (some (.int v5)) g5) (hP : P (.inl (some (.int v5))) g5) : SW sc m_X10_rootWord (d + 1) rc rs 0 [some (.ref r0), some (.int l1)] [] h P := by
  refine sw_aload_n dX10_rootWord_0 rfl ?_
  refine sw_iload_n dX10_rootWord_1 rfl ?_
  refine sw_iconst (v := (-1)) dX10_rootWord_2 (by decide) ?_
  refine sw_iconst (v := 0) dX10_rootWord_3 (by decide) ?_
  refine sw_cV dX10_rootWord_4 lv_X10_114 hm5 hr5 rfl (by decide) rfl rfl rfl (Nat.le_of_ble_eq_true rfl) (fun _ _ => rfl) rfl ?_
  show SW sc m_X10_rootWord _ _ _ 7 [some (.ref r0), some (.int l1)] [.int v5] g5 P
  exact sw_ret (v := (some (.int v5))) dX10_rootWord_7 rt_i hP
theorem b_X10_wordOfSet_0 {r0 : Nat} {l1 : Int32} {v4 : Int32} {g4 : ab_H} {fs4 : List Value} (hr4 : (h)[r0]? = some (10, fs4)) (hm4 : MSE m_X10_leastOf d [.ref r0, .int l1, .int 1] h (some (.int v4)) g4) (k : SW sc m_X10_wordOfSet (d + 1) rc rs 12 [some (.ref r0), none, some (.int v4), some (.int 0), some (.int 0), none] [] g4 P) : SW sc m_X10_wordOfSet (d + 1) rc rs 0 [some (.ref r0), some (.int l1), none, none, none, none] [] h P := by
  refine sw_aload_n dX10_wordOfSet_0 rfl ?_
  refine sw_iload_n dX10_wordOfSet_1 rfl ?_
  refine sw_iconst (v := 1) dX10_wordOfSet_2 (by decide) ?_
  refine sw_cV dX10_wordOfSet_3 lv_X10_121 hm4 hr4 rfl (by decide) rfl rfl rfl (Nat.le_of_ble_eq_true rfl) (fun _ _ => rfl) rfl ?_
  show SW sc m_X10_wordOfSet _ _ _ 6 [some (.ref r0), some (.int l1), none, none, none, none] [.int v4] g4 P
  refine sw_istore_n dX10_wordOfSet_6 (by decide) rfl ?_
  show SW sc m_X10_wordOfSet _ _ _ 7 [some (.ref r0), some (.int l1), some (.int v4), none, none, none] [] g4 P
  refine sw_iconst (v := 0) dX10_wordOfSet_7 (by decide) ?_
  refine sw_istore_n dX10_wordOfSet_8 (by decide) rfl ?_
  show SW sc m_X10_wordOfSet _ _ _ 9 [some (.ref r0), some (.int l1), some (.int v4), some (.int 0), none, none] [] g4 P
  refine sw_iconst (v := 0) dX10_wordOfSet_9 (by decide) ?_
  refine sw_istore dX10_wordOfSet_10 (by decide) rfl ?_
  show SW sc m_X10_wordOfSet _ _ _ 12 [some (.ref r0), some (.int l1), some (.int v4), some (.int 0), some (.int 0), none] [] g4 P
  exact (sw_fg [false, true, false, false, false, false] rfl (k))
theorem b_X10_wordOfSet_12 {r0 : Nat} {l2 : Int32} {l3 : Int32} {l4 : Int32} {v3 : Int32} {g3 : ab_H} {fs3 : List Value} (hr3 : (h)[r0]? = some (10, fs3)) (hm3 : MSE m_X10_many d [.ref r0] h (some (.int v3)) g3) (kt : v3 ≤ l4 → SW sc m_X10_wordOfSet (d + 1) rc rs 67 [none, none, none, some (.int l3), none, none] [] g3 P) (kf : ¬ (v3 ≤ l4) → SW sc m_X10_wordOfSet (d + 1) rc rs 21 [some (.ref r0), none, some (.int l2), some (.int l3), some (.int l4), none] [] g3 P) : SW sc m_X10_wordOfSet (d + 1) rc rs 12 [some (.ref r0), none, some (.int l2), some (.int l3), some (.int l4), none] [] h P := by
  refine sw_iload dX10_wordOfSet_12 rfl ?_
  refine sw_aload_n dX10_wordOfSet_14 rfl ?_
  refine sw_cV dX10_wordOfSet_15 lv_X10_66 hm3 hr3 rfl (by decide) rfl rfl rfl (Nat.le_of_ble_eq_true rfl) (fun _ _ => rfl) rfl ?_
  show SW sc m_X10_wordOfSet _ _ _ 18 [some (.ref r0), none, some (.int l2), some (.int l3), some (.int l4), none] [.int v3, .int l4] g3 P
  exact sw_icmp_ge dX10_wordOfSet_18 (by decide) (fun q => (sw_fg [true, false, true, false, true, false] rfl (kt q))) (fun q => (kf q))
theorem b_X10_wordOfSet_21 {r0 : Nat} {l2 : Int32} {l3 : Int32} {l4 : Int32} {v3 : Int32} {g3 : ab_H} (hm3 : MSE m_X10_has d [.int l2, .int l4] h (some (.int v3)) g3) (kt : ¬ v3 = 0 → SW sc m_X10_wordOfSet (d + 1) rc rs 33 [some (.ref r0), none, some (.int l2), some (.int l3), some (.int l4), none] [] g3 P) (kf : v3 = 0 → SW sc m_X10_wordOfSet (d + 1) rc rs 30 [some (.ref r0), none, some (.int l2), some (.int l3), some (.int l4), none] [] g3 P) : SW sc m_X10_wordOfSet (d + 1) rc rs 21 [some (.ref r0), none, some (.int l2), some (.int l3), some (.int l4), none] [] h P := by
  refine sw_iload_n dX10_wordOfSet_21 rfl ?_
  refine sw_iload dX10_wordOfSet_22 rfl ?_
  refine sw_cS dX10_wordOfSet_24 ls_X10_70 hm3 rfl rfl (Nat.le_of_ble_eq_true rfl) (fun _ _ => rfl) rfl ?_
  show SW sc m_X10_wordOfSet _ _ _ 27 [some (.ref r0), none, some (.int l2), some (.int l3), some (.int l4), none] [.int v3] g3 P
  exact sw_if_ne dX10_wordOfSet_27 (by decide) (fun q => (kt q)) (fun q => (kf q))
theorem b_X10_wordOfSet_30 {r0 : Nat} {l2 : Int32} {l3 : Int32} {l4 : Int32} (k : SW sc m_X10_wordOfSet d rc rs 61 [some (.ref r0), none, some (.int l2), some (.int l3), some (.int l4), none] [] h P) : SW sc m_X10_wordOfSet d rc rs 30 [some (.ref r0), none, some (.int l2), some (.int l3), some (.int l4), none] [] h P := by
  exact sw_goto dX10_wordOfSet_30 (by decide) (k)
theorem b_X10_wordOfSet_33 {r0 : Nat} {l2 : Int32} {l3 : Int32} {l4 : Int32} {v3 : Int32} {g3 : ab_H} {fs3 : List Value} (hr3 : (h)[r0]? = some (10, fs3)) (hm3 : MSE m_X10_rootWord d [.ref r0, .int l4] h (some (.int v3)) g3) (kt : l3 = 0 → SW sc m_X10_wordOfSet (d + 1) rc rs 54 [some (.ref r0), none, some (.int l2), none, some (.int l4), some (.int v3)] [] g3 P) (kf : ¬ (l3 = 0) → SW sc m_X10_wordOfSet (d + 1) rc rs 45 [some (.ref r0), none, some (.int l2), some (.int l3), some (.int l4), some (.int v3)] [] g3 P) : SW sc m_X10_wordOfSet (d + 1) rc rs 33 [some (.ref r0), none, some (.int l2), some (.int l3), some (.int l4), none] [] h P := by
  refine sw_aload_n dX10_wordOfSet_33 rfl ?_
  refine sw_iload dX10_wordOfSet_34 rfl ?_
  refine sw_cV dX10_wordOfSet_36 lv_X10_124 hm3 hr3 rfl (by decide) rfl rfl rfl (Nat.le_of_ble_eq_true rfl) (fun _ _ => rfl) rfl ?_
  show SW sc m_X10_wordOfSet _ _ _ 39 [some (.ref r0), none, some (.int l2), some (.int l3), some (.int l4), none] [.int v3] g3 P
  refine sw_istore dX10_wordOfSet_39 (by decide) rfl ?_
  show SW sc m_X10_wordOfSet _ _ _ 41 [some (.ref r0), none, some (.int l2), some (.int l3), some (.int l4), some (.int v3)] [] g3 P
  refine sw_iload_n dX10_wordOfSet_41 rfl ?_
  exact sw_if_eq dX10_wordOfSet_42 (by decide) (fun q => (sw_fg [false, false, false, true, false, false] rfl (kt q))) (fun q => (kf q))
theorem b_X10_wordOfSet_45 {r0 : Nat} {l2 : Int32} {l3 : Int32} {l4 : Int32} {l5 : Int32} {v3 : Int32} {g3 : ab_H} (hm3 : MSE m_X10_isLess d [.int l5, .int l3] h (some (.int v3)) g3) (kt : v3 = 0 → SW sc m_X10_wordOfSet (d + 1) rc rs 59 [some (.ref r0), none, some (.int l2), some (.int l3), some (.int l4), none] [] g3 P) (kf : ¬ (v3 = 0) → SW sc m_X10_wordOfSet (d + 1) rc rs 54 [some (.ref r0), none, some (.int l2), none, some (.int l4), some (.int l5)] [] g3 P) : SW sc m_X10_wordOfSet (d + 1) rc rs 45 [some (.ref r0), none, some (.int l2), some (.int l3), some (.int l4), some (.int l5)] [] h P := by
  refine sw_iload dX10_wordOfSet_45 rfl ?_
  refine sw_iload_n dX10_wordOfSet_47 rfl ?_
  refine sw_cS dX10_wordOfSet_48 ls_X10_118 hm3 rfl rfl (Nat.le_of_ble_eq_true rfl) (fun _ _ => rfl) rfl ?_
  show SW sc m_X10_wordOfSet _ _ _ 51 [some (.ref r0), none, some (.int l2), some (.int l3), some (.int l4), some (.int l5)] [.int v3] g3 P
  exact sw_if_eq dX10_wordOfSet_51 (by decide) (fun q => (sw_fg [false, false, false, false, false, true] rfl (kt q))) (fun q => (sw_fg [false, false, false, true, false, false] rfl (kf q)))
theorem b_X10_wordOfSet_54 {r0 : Nat} {l2 : Int32} {l4 : Int32} {l5 : Int32} (k : SW sc m_X10_wordOfSet d rc rs 60 [some (.ref r0), none, some (.int l2), none, some (.int l4), none] [.int l5] h P) : SW sc m_X10_wordOfSet d rc rs 54 [some (.ref r0), none, some (.int l2), none, some (.int l4), some (.int l5)] [] h P := by
  refine sw_iload dX10_wordOfSet_54 rfl ?_
  exact sw_goto dX10_wordOfSet_56 (by decide) (sw_fg [false, false, false, false, false, true] rfl (k))
theorem b_X10_wordOfSet_59 {r0 : Nat} {l2 : Int32} {l3 : Int32} {l4 : Int32} (k : SW sc m_X10_wordOfSet d rc rs 60 [some (.ref r0), none, some (.int l2), none, some (.int l4), none] [.int l3] h P) : SW sc m_X10_wordOfSet d rc rs 59 [some (.ref r0), none, some (.int l2), some (.int l3), some (.int l4), none] [] h P := by
  refine sw_iload_n dX10_wordOfSet_59 rfl ?_
  exact (sw_fg [false, false, false, true, false, false] rfl (k))
theorem b_X10_wordOfSet_60 {r0 : Nat} {l2 : Int32} {l4 : Int32} {s0 : Int32} (k : SW sc m_X10_wordOfSet d rc rs 61 [some (.ref r0), none, some (.int l2), some (.int s0), some (.int l4), none] [] h P) : SW sc m_X10_wordOfSet d rc rs 60 [some (.ref r0), none, some (.int l2), none, some (.int l4), none] [.int s0] h P := by
  refine sw_istore_n dX10_wordOfSet_60 (by decide) rfl ?_
  show SW sc m_X10_wordOfSet _ _ _ 61 [some (.ref r0), none, some (.int l2), some (.int s0), some (.int l4), none] [] h P
  exact (k)
theorem b_X10_wordOfSet_61 {r0 : Nat} {l2 : Int32} {l3 : Int32} {l4 : Int32} (k : SW sc m_X10_wordOfSet d rc rs 12 [some (.ref r0), none, some (.int l2), some (.int l3), some (.int (l4 + 1)), none] [] h P) : SW sc m_X10_wordOfSet d rc rs 61 [some (.ref r0), none, some (.int l2), some (.int l3), some (.int l4), none] [] h P := by
  refine sw_iinc (v := l4 + 1) dX10_wordOfSet_61 rfl rfl (by decide) rfl ?_
  show SW sc m_X10_wordOfSet _ _ _ 64 [some (.ref r0), none, some (.int l2), some (.int l3), some (.int (l4 + 1)), none] [] h P
  exact sw_goto dX10_wordOfSet_64 (by decide) (k)
theorem b_X10_wordOfSet_67 {l3 : Int32} (hP : P (.inl (some (.int l3))) h) : SW sc m_X10_wordOfSet d rc rs 67 [none, none, none, some (.int l3), none, none] [] h P := by
  refine sw_iload_n dX10_wordOfSet_67 rfl ?_
  exact sw_ret (v := (some (.int l3))) dX10_wordOfSet_68 rt_i hP
theorem b_X10_orbit_0 {r0 : Nat} {l1 : Int32} {v3 : Int32} {g3 : ab_H} {fs3 : List Value} {v7 : Int32} {g7 : ab_H} {fs7 : List Value} (hr3 : (h)[r0]? = some (10, fs3)) (hm3 : MSE m_X10_component d [.ref r0, .int l1] h (some (.int v3)) g3) (hr7 : (g3)[r0]? = some (10, fs7)) (hm7 : MSE m_X10_rootWord d [.ref r0, .int l1] g3 (some (.int v7)) g7) (k : SW sc m_X10_orbit (d + 1) rc rs 18 [some (.ref r0), none, some (.int v3), some (.int v7), some (.int 0), some (.int 0)] [] g7 P) : SW sc m_X10_orbit (d + 1) rc rs 0 [some (.ref r0), some (.int l1), none, none, none, none] [] h P := by
  refine sw_aload_n dX10_orbit_0 rfl ?_
  refine sw_iload_n dX10_orbit_1 rfl ?_
  refine sw_cV dX10_orbit_2 lv_X10_84 hm3 hr3 rfl (by decide) rfl rfl rfl (Nat.le_of_ble_eq_true rfl) (fun _ _ => rfl) rfl ?_
  show SW sc m_X10_orbit _ _ _ 5 [some (.ref r0), some (.int l1), none, none, none, none] [.int v3] g3 P
  refine sw_istore_n dX10_orbit_5 (by decide) rfl ?_
  show SW sc m_X10_orbit _ _ _ 6 [some (.ref r0), some (.int l1), some (.int v3), none, none, none] [] g3 P
  refine sw_aload_n dX10_orbit_6 rfl ?_
  refine sw_iload_n dX10_orbit_7 rfl ?_
  refine sw_cV dX10_orbit_8 lv_X10_124 hm7 hr7 rfl (by decide) rfl rfl rfl (Nat.le_of_ble_eq_true rfl) (fun _ _ => rfl) rfl ?_
  show SW sc m_X10_orbit _ _ _ 11 [some (.ref r0), some (.int l1), some (.int v3), none, none, none] [.int v7] g7 P
  refine sw_istore_n dX10_orbit_11 (by decide) rfl ?_
  show SW sc m_X10_orbit _ _ _ 12 [some (.ref r0), some (.int l1), some (.int v3), some (.int v7), none, none] [] g7 P
  refine sw_iconst (v := 0) dX10_orbit_12 (by decide) ?_
  refine sw_istore dX10_orbit_13 (by decide) rfl ?_
  show SW sc m_X10_orbit _ _ _ 15 [some (.ref r0), some (.int l1), some (.int v3), some (.int v7), some (.int 0), none] [] g7 P
  refine sw_iconst (v := 0) dX10_orbit_15 (by decide) ?_
  refine sw_istore dX10_orbit_16 (by decide) rfl ?_
  show SW sc m_X10_orbit _ _ _ 18 [some (.ref r0), some (.int l1), some (.int v3), some (.int v7), some (.int 0), some (.int 0)] [] g7 P
  exact (sw_fg [false, true, false, false, false, false] rfl (k))
theorem b_X10_orbit_18 {r0 : Nat} {l2 : Int32} {l3 : Int32} {l4 : Int32} {l5 : Int32} {v3 : Int32} {g3 : ab_H} {fs3 : List Value} (hr3 : (h)[r0]? = some (10, fs3)) (hm3 : MSE m_X10_many d [.ref r0] h (some (.int v3)) g3) (kt : v3 ≤ l5 → SW sc m_X10_orbit (d + 1) rc rs 61 [none, none, none, none, some (.int l4), none] [] g3 P) (kf : ¬ (v3 ≤ l5) → SW sc m_X10_orbit (d + 1) rc rs 27 [some (.ref r0), none, some (.int l2), some (.int l3), some (.int l4), some (.int l5)] [] g3 P) : SW sc m_X10_orbit (d + 1) rc rs 18 [some (.ref r0), none, some (.int l2), some (.int l3), some (.int l4), some (.int l5)] [] h P := by
  refine sw_iload dX10_orbit_18 rfl ?_
  refine sw_aload_n dX10_orbit_20 rfl ?_
  refine sw_cV dX10_orbit_21 lv_X10_66 hm3 hr3 rfl (by decide) rfl rfl rfl (Nat.le_of_ble_eq_true rfl) (fun _ _ => rfl) rfl ?_
  show SW sc m_X10_orbit _ _ _ 24 [some (.ref r0), none, some (.int l2), some (.int l3), some (.int l4), some (.int l5)] [.int v3, .int l5] g3 P
  exact sw_icmp_ge dX10_orbit_24 (by decide) (fun q => (sw_fg [true, false, true, true, false, true] rfl (kt q))) (fun q => (kf q))
theorem b_X10_orbit_27 {r0 : Nat} {l2 : Int32} {l3 : Int32} {l4 : Int32} {l5 : Int32} {v3 : Int32} {g3 : ab_H} (hm3 : MSE m_X10_has d [.int l2, .int l5] h (some (.int v3)) g3) (kt : v3 = 0 → SW sc m_X10_orbit (d + 1) rc rs 55 [some (.ref r0), none, some (.int l2), some (.int l3), some (.int l4), some (.int l5)] [] g3 P) (kf : ¬ (v3 = 0) → SW sc m_X10_orbit (d + 1) rc rs 36 [some (.ref r0), none, some (.int l2), some (.int l3), some (.int l4), some (.int l5)] [] g3 P) : SW sc m_X10_orbit (d + 1) rc rs 27 [some (.ref r0), none, some (.int l2), some (.int l3), some (.int l4), some (.int l5)] [] h P := by
  refine sw_iload_n dX10_orbit_27 rfl ?_
  refine sw_iload dX10_orbit_28 rfl ?_
  refine sw_cS dX10_orbit_30 ls_X10_70 hm3 rfl rfl (Nat.le_of_ble_eq_true rfl) (fun _ _ => rfl) rfl ?_
  show SW sc m_X10_orbit _ _ _ 33 [some (.ref r0), none, some (.int l2), some (.int l3), some (.int l4), some (.int l5)] [.int v3] g3 P
  exact sw_if_eq dX10_orbit_33 (by decide) (fun q => (kt q)) (fun q => (kf q))
theorem b_X10_orbit_36 {r0 : Nat} {l2 : Int32} {l3 : Int32} {l4 : Int32} {l5 : Int32} {v3 : Int32} {g3 : ab_H} {fs3 : List Value} (hr3 : (h)[r0]? = some (10, fs3)) (hm3 : MSE m_X10_rootWord d [.ref r0, .int l5] h (some (.int v3)) g3) (kt : ¬ v3 = l3 → SW sc m_X10_orbit (d + 1) rc rs 55 [some (.ref r0), none, some (.int l2), some (.int l3), some (.int l4), some (.int l5)] [] g3 P) (kf : v3 = l3 → SW sc m_X10_orbit (d + 1) rc rs 46 [some (.ref r0), none, some (.int l2), some (.int l3), some (.int l4), some (.int l5)] [] g3 P) : SW sc m_X10_orbit (d + 1) rc rs 36 [some (.ref r0), none, some (.int l2), some (.int l3), some (.int l4), some (.int l5)] [] h P := by
  refine sw_aload_n dX10_orbit_36 rfl ?_
  refine sw_iload dX10_orbit_37 rfl ?_
  refine sw_cV dX10_orbit_39 lv_X10_124 hm3 hr3 rfl (by decide) rfl rfl rfl (Nat.le_of_ble_eq_true rfl) (fun _ _ => rfl) rfl ?_
  show SW sc m_X10_orbit _ _ _ 42 [some (.ref r0), none, some (.int l2), some (.int l3), some (.int l4), some (.int l5)] [.int v3] g3 P
  refine sw_iload_n dX10_orbit_42 rfl ?_
  exact sw_icmp_ne dX10_orbit_43 (by decide) (fun q => (kt q)) (fun q => (kf q))
theorem b_X10_orbit_46 {r0 : Nat} {l2 : Int32} {l3 : Int32} {l4 : Int32} {l5 : Int32} (k : SW sc m_X10_orbit d rc rs 55 [some (.ref r0), none, some (.int l2), some (.int l3), some (.int (l4 ||| (1 <<< (l5 &&& 31)))), some (.int l5)] [] h P) : SW sc m_X10_orbit d rc rs 46 [some (.ref r0), none, some (.int l2), some (.int l3), some (.int l4), some (.int l5)] [] h P := by
  refine sw_iload dX10_orbit_46 rfl ?_
  refine sw_iconst (v := 1) dX10_orbit_48 (by decide) ?_
  refine sw_iload dX10_orbit_49 rfl ?_
  refine sw_ishl dX10_orbit_51 ?_
  refine sw_ior dX10_orbit_52 ?_
  refine sw_istore dX10_orbit_53 (by decide) rfl ?_
  show SW sc m_X10_orbit _ _ _ 55 [some (.ref r0), none, some (.int l2), some (.int l3), some (.int (l4 ||| (1 <<< (l5 &&& 31)))), some (.int l5)] [] h P
  exact (k)
theorem b_X10_orbit_55 {r0 : Nat} {l2 : Int32} {l3 : Int32} {l4 : Int32} {l5 : Int32} (k : SW sc m_X10_orbit d rc rs 18 [some (.ref r0), none, some (.int l2), some (.int l3), some (.int l4), some (.int (l5 + 1))] [] h P) : SW sc m_X10_orbit d rc rs 55 [some (.ref r0), none, some (.int l2), some (.int l3), some (.int l4), some (.int l5)] [] h P := by
  refine sw_iinc (v := l5 + 1) dX10_orbit_55 rfl rfl (by decide) rfl ?_
  show SW sc m_X10_orbit _ _ _ 58 [some (.ref r0), none, some (.int l2), some (.int l3), some (.int l4), some (.int (l5 + 1))] [] h P
  exact sw_goto dX10_orbit_58 (by decide) (k)
theorem b_X10_orbit_61 {l4 : Int32} (hP : P (.inl (some (.int l4))) h) : SW sc m_X10_orbit d rc rs 61 [none, none, none, none, some (.int l4), none] [] h P := by
  refine sw_iload dX10_orbit_61 rfl ?_
  exact sw_ret (v := (some (.int l4))) dX10_orbit_63 rt_i hP
theorem b_X10_turns_0 {r0 : Nat} {l1 : Int32} {l2 : Int32} (k : SW sc m_X10_turns d rc rs 5 [some (.ref r0), some (.int l1), some (.int l2), some (.int 1), some (.int 0), none, none, none] [] h P) : SW sc m_X10_turns d rc rs 0 [some (.ref r0), some (.int l1), some (.int l2), none, none, none, none, none] [] h P := by
  refine sw_iconst (v := 1) dX10_turns_0 (by decide) ?_
  refine sw_istore_n dX10_turns_1 (by decide) rfl ?_
  show SW sc m_X10_turns _ _ _ 2 [some (.ref r0), some (.int l1), some (.int l2), some (.int 1), none, none, none, none] [] h P
  refine sw_iconst (v := 0) dX10_turns_2 (by decide) ?_
  refine sw_istore dX10_turns_3 (by decide) rfl ?_
  show SW sc m_X10_turns _ _ _ 5 [some (.ref r0), some (.int l1), some (.int l2), some (.int 1), some (.int 0), none, none, none] [] h P
  exact (k)
theorem b_X10_turns_5 {r0 : Nat} {l1 : Int32} {l2 : Int32} {l3 : Int32} {l4 : Int32} {v3 : Int32} {g3 : ab_H} {fs3 : List Value} (hr3 : (h)[r0]? = some (10, fs3)) (hm3 : MSE m_X10_many d [.ref r0] h (some (.int v3)) g3) (kt : v3 ≤ l4 → SW sc m_X10_turns (d + 1) rc rs 126 [none, none, none, some (.int l3), none, none, none, none] [] g3 P) (kf : ¬ (v3 ≤ l4) → SW sc m_X10_turns (d + 1) rc rs 14 [some (.ref r0), some (.int l1), some (.int l2), some (.int l3), some (.int l4), none, none, none] [] g3 P) : SW sc m_X10_turns (d + 1) rc rs 5 [some (.ref r0), some (.int l1), some (.int l2), some (.int l3), some (.int l4), none, none, none] [] h P := by
  refine sw_iload dX10_turns_5 rfl ?_
  refine sw_aload_n dX10_turns_7 rfl ?_
  refine sw_cV dX10_turns_8 lv_X10_66 hm3 hr3 rfl (by decide) rfl rfl rfl (Nat.le_of_ble_eq_true rfl) (fun _ _ => rfl) rfl ?_
  show SW sc m_X10_turns _ _ _ 11 [some (.ref r0), some (.int l1), some (.int l2), some (.int l3), some (.int l4), none, none, none] [.int v3, .int l4] g3 P
  exact sw_icmp_ge dX10_turns_11 (by decide) (fun q => (sw_fg [true, true, true, false, true, false, false, false] rfl (kt q))) (fun q => (kf q))
theorem b_X10_turns_14 {r0 : Nat} {l1 : Int32} {l2 : Int32} {l3 : Int32} {l4 : Int32} {v3 : Int32} {g3 : ab_H} {fs3 : List Value} {v5 : Int32} {g5 : ab_H} (hr3 : (h)[r0]? = some (10, fs3)) (hm3 : MSE m_X10_at d [.ref r0, .int l1] h (some (.int v3)) g3) (hm5 : MSE m_X10_has d [.int v3, .int l4] g3 (some (.int v5)) g5) (kt : v5 = 0 → SW sc m_X10_turns (d + 1) rc rs 120 [some (.ref r0), some (.int l1), some (.int l2), some (.int l3), some (.int l4), none, none, none] [] g5 P) (kf : ¬ (v5 = 0) → SW sc m_X10_turns (d + 1) rc rs 27 [some (.ref r0), some (.int l1), some (.int l2), some (.int l3), some (.int l4), none, none, none] [] g5 P) : SW sc m_X10_turns (d + 1) rc rs 14 [some (.ref r0), some (.int l1), some (.int l2), some (.int l3), some (.int l4), none, none, none] [] h P := by
  refine sw_aload_n dX10_turns_14 rfl ?_
  refine sw_iload_n dX10_turns_15 rfl ?_
  refine sw_cV dX10_turns_16 lv_X10_74 hm3 hr3 rfl (by decide) rfl rfl rfl (Nat.le_of_ble_eq_true rfl) (fun _ _ => rfl) rfl ?_
  show SW sc m_X10_turns _ _ _ 19 [some (.ref r0), some (.int l1), some (.int l2), some (.int l3), some (.int l4), none, none, none] [.int v3] g3 P
  refine sw_iload dX10_turns_19 rfl ?_
  refine sw_cS dX10_turns_21 ls_X10_70 hm5 rfl rfl (Nat.le_of_ble_eq_true rfl) (fun _ _ => rfl) rfl ?_
  show SW sc m_X10_turns _ _ _ 24 [some (.ref r0), some (.int l1), some (.int l2), some (.int l3), some (.int l4), none, none, none] [.int v5] g5 P
  exact sw_if_eq dX10_turns_24 (by decide) (fun q => (kt q)) (fun q => (kf q))
theorem b_X10_turns_27 {r0 : Nat} {l1 : Int32} {l2 : Int32} {l3 : Int32} {l4 : Int32} (kt : ¬ l4 = l2 → SW sc m_X10_turns d rc rs 36 [some (.ref r0), some (.int l1), some (.int l2), some (.int l3), some (.int l4), none, none, none] [] h P) (kf : l4 = l2 → SW sc m_X10_turns d rc rs 33 [some (.ref r0), some (.int l1), some (.int l2), some (.int l3), some (.int l4), none, none, none] [] h P) : SW sc m_X10_turns d rc rs 27 [some (.ref r0), some (.int l1), some (.int l2), some (.int l3), some (.int l4), none, none, none] [] h P := by
  refine sw_iload dX10_turns_27 rfl ?_
  refine sw_iload_n dX10_turns_29 rfl ?_
  exact sw_icmp_ne dX10_turns_30 (by decide) (fun q => (kt q)) (fun q => (kf q))
theorem b_X10_turns_33 {r0 : Nat} {l1 : Int32} {l2 : Int32} {l3 : Int32} {l4 : Int32} (k : SW sc m_X10_turns d rc rs 120 [some (.ref r0), some (.int l1), some (.int l2), some (.int l3), some (.int l4), none, none, none] [] h P) : SW sc m_X10_turns d rc rs 33 [some (.ref r0), some (.int l1), some (.int l2), some (.int l3), some (.int l4), none, none, none] [] h P := by
  exact sw_goto dX10_turns_33 (by decide) (k)
theorem b_X10_turns_36 {r0 : Nat} {l1 : Int32} {l2 : Int32} {l3 : Int32} {l4 : Int32} {v5 : Int32} {g5 : ab_H} {fs5 : List Value} (hr5 : (h)[r0]? = some (10, fs5)) (hm5 : MSE m_X10_wordOf d [.ref r0, .int l4, .int l1, .int 0] h (some (.int v5)) g5) (k : SW sc m_X10_turns (d + 1) rc rs 52 [some (.ref r0), some (.int l1), some (.int l2), some (.int l3), some (.int l4), some (.int v5), some (.int 1), some (.int 0)] [] g5 P) : SW sc m_X10_turns (d + 1) rc rs 36 [some (.ref r0), some (.int l1), some (.int l2), some (.int l3), some (.int l4), none, none, none] [] h P := by
  refine sw_aload_n dX10_turns_36 rfl ?_
  refine sw_iload dX10_turns_37 rfl ?_
  refine sw_iload_n dX10_turns_39 rfl ?_
  refine sw_iconst (v := 0) dX10_turns_40 (by decide) ?_
  refine sw_cV dX10_turns_41 lv_X10_114 hm5 hr5 rfl (by decide) rfl rfl rfl (Nat.le_of_ble_eq_true rfl) (fun _ _ => rfl) rfl ?_
  show SW sc m_X10_turns _ _ _ 44 [some (.ref r0), some (.int l1), some (.int l2), some (.int l3), some (.int l4), none, none, none] [.int v5] g5 P
  refine sw_istore dX10_turns_44 (by decide) rfl ?_
  show SW sc m_X10_turns _ _ _ 46 [some (.ref r0), some (.int l1), some (.int l2), some (.int l3), some (.int l4), some (.int v5), none, none] [] g5 P
  refine sw_iconst (v := 1) dX10_turns_46 (by decide) ?_
  refine sw_istore dX10_turns_47 (by decide) rfl ?_
  show SW sc m_X10_turns _ _ _ 49 [some (.ref r0), some (.int l1), some (.int l2), some (.int l3), some (.int l4), some (.int v5), some (.int 1), none] [] g5 P
  refine sw_iconst (v := 0) dX10_turns_49 (by decide) ?_
  refine sw_istore dX10_turns_50 (by decide) rfl ?_
  show SW sc m_X10_turns _ _ _ 52 [some (.ref r0), some (.int l1), some (.int l2), some (.int l3), some (.int l4), some (.int v5), some (.int 1), some (.int 0)] [] g5 P
  exact (k)
theorem b_X10_turns_52 {r0 : Nat} {l1 : Int32} {l2 : Int32} {l3 : Int32} {l4 : Int32} {l5 : Int32} {l6 : Int32} {l7 : Int32} (kt : l4 ≤ l7 → SW sc m_X10_turns d rc rs 107 [some (.ref r0), some (.int l1), some (.int l2), some (.int l3), some (.int l4), none, some (.int l6), none] [] h P) (kf : ¬ (l4 ≤ l7) → SW sc m_X10_turns d rc rs 59 [some (.ref r0), some (.int l1), some (.int l2), some (.int l3), some (.int l4), some (.int l5), some (.int l6), some (.int l7)] [] h P) : SW sc m_X10_turns d rc rs 52 [some (.ref r0), some (.int l1), some (.int l2), some (.int l3), some (.int l4), some (.int l5), some (.int l6), some (.int l7)] [] h P := by
  refine sw_iload dX10_turns_52 rfl ?_
  refine sw_iload dX10_turns_54 rfl ?_
  exact sw_icmp_ge dX10_turns_56 (by decide) (fun q => (sw_fg [false, false, false, false, false, true, false, true] rfl (kt q))) (fun q => (kf q))
theorem b_X10_turns_59 {r0 : Nat} {l1 : Int32} {l2 : Int32} {l3 : Int32} {l4 : Int32} {l5 : Int32} {l6 : Int32} {l7 : Int32} {v4 : Int32} {g4 : ab_H} {fs4 : List Value} {v6 : Int32} {g6 : ab_H} (hr4 : (h)[r0]? = some (10, fs4)) (hm4 : MSE m_X10_at d [.ref r0, .int l1] h (some (.int v4)) g4) (hm6 : MSE m_X10_has d [.int v4, .int l7] g4 (some (.int v6)) g6) (kt : v6 = 0 → SW sc m_X10_turns (d + 1) rc rs 97 [some (.ref r0), some (.int l1), some (.int l2), some (.int l3), some (.int l4), some (.int l5), none, some (.int l7)] [.int l6] g6 P) (kf : ¬ (v6 = 0) → SW sc m_X10_turns (d + 1) rc rs 74 [some (.ref r0), some (.int l1), some (.int l2), some (.int l3), some (.int l4), some (.int l5), none, some (.int l7)] [.int l6] g6 P) : SW sc m_X10_turns (d + 1) rc rs 59 [some (.ref r0), some (.int l1), some (.int l2), some (.int l3), some (.int l4), some (.int l5), some (.int l6), some (.int l7)] [] h P := by
  refine sw_iload dX10_turns_59 rfl ?_
  refine sw_aload_n dX10_turns_61 rfl ?_
  refine sw_iload_n dX10_turns_62 rfl ?_
  refine sw_cV dX10_turns_63 lv_X10_74 hm4 hr4 rfl (by decide) rfl rfl rfl (Nat.le_of_ble_eq_true rfl) (fun _ _ => rfl) rfl ?_
  show SW sc m_X10_turns _ _ _ 66 [some (.ref r0), some (.int l1), some (.int l2), some (.int l3), some (.int l4), some (.int l5), some (.int l6), some (.int l7)] [.int v4, .int l6] g4 P
  refine sw_iload dX10_turns_66 rfl ?_
  refine sw_cS dX10_turns_68 ls_X10_70 hm6 rfl rfl (Nat.le_of_ble_eq_true rfl) (fun _ _ => rfl) rfl ?_
  show SW sc m_X10_turns _ _ _ 71 [some (.ref r0), some (.int l1), some (.int l2), some (.int l3), some (.int l4), some (.int l5), some (.int l6), some (.int l7)] [.int v6, .int l6] g6 P
  exact sw_if_eq dX10_turns_71 (by decide) (fun q => (sw_fg [false, false, false, false, false, false, true, false] rfl (kt q))) (fun q => (sw_fg [false, false, false, false, false, false, true, false] rfl (kf q)))
theorem b_X10_turns_74 {r0 : Nat} {l1 : Int32} {l2 : Int32} {l3 : Int32} {l4 : Int32} {l5 : Int32} {l7 : Int32} {s0 : Int32} (kt : l7 = l2 → SW sc m_X10_turns d rc rs 97 [some (.ref r0), some (.int l1), some (.int l2), some (.int l3), some (.int l4), some (.int l5), none, some (.int l7)] [.int s0] h P) (kf : ¬ (l7 = l2) → SW sc m_X10_turns d rc rs 80 [some (.ref r0), some (.int l1), some (.int l2), some (.int l3), some (.int l4), some (.int l5), none, some (.int l7)] [.int s0] h P) : SW sc m_X10_turns d rc rs 74 [some (.ref r0), some (.int l1), some (.int l2), some (.int l3), some (.int l4), some (.int l5), none, some (.int l7)] [.int s0] h P := by
  refine sw_iload dX10_turns_74 rfl ?_
  refine sw_iload_n dX10_turns_76 rfl ?_
  exact sw_icmp_eq dX10_turns_77 (by decide) (fun q => (kt q)) (fun q => (kf q))
theorem b_X10_turns_80 {r0 : Nat} {l1 : Int32} {l2 : Int32} {l3 : Int32} {l4 : Int32} {l5 : Int32} {l7 : Int32} {s0 : Int32} {v5 : Int32} {g5 : ab_H} {fs5 : List Value} (hr5 : (h)[r0]? = some (10, fs5)) (hm5 : MSE m_X10_wordOf d [.ref r0, .int l7, .int l1, .int 0] h (some (.int v5)) g5) (kt : ¬ v5 = l5 → SW sc m_X10_turns (d + 1) rc rs 97 [some (.ref r0), some (.int l1), some (.int l2), some (.int l3), some (.int l4), some (.int l5), none, some (.int l7)] [.int s0] g5 P) (kf : v5 = l5 → SW sc m_X10_turns (d + 1) rc rs 93 [some (.ref r0), some (.int l1), some (.int l2), some (.int l3), some (.int l4), some (.int l5), none, some (.int l7)] [.int s0] g5 P) : SW sc m_X10_turns (d + 1) rc rs 80 [some (.ref r0), some (.int l1), some (.int l2), some (.int l3), some (.int l4), some (.int l5), none, some (.int l7)] [.int s0] h P := by
  refine sw_aload_n dX10_turns_80 rfl ?_
  refine sw_iload dX10_turns_81 rfl ?_
  refine sw_iload_n dX10_turns_83 rfl ?_
  refine sw_iconst (v := 0) dX10_turns_84 (by decide) ?_
  refine sw_cV dX10_turns_85 lv_X10_114 hm5 hr5 rfl (by decide) rfl rfl rfl (Nat.le_of_ble_eq_true rfl) (fun _ _ => rfl) rfl ?_
  show SW sc m_X10_turns _ _ _ 88 [some (.ref r0), some (.int l1), some (.int l2), some (.int l3), some (.int l4), some (.int l5), none, some (.int l7)] [.int v5, .int s0] g5 P
  refine sw_iload dX10_turns_88 rfl ?_
  exact sw_icmp_ne dX10_turns_90 (by decide) (fun q => (kt q)) (fun q => (kf q))
theorem b_X10_turns_93 {r0 : Nat} {l1 : Int32} {l2 : Int32} {l3 : Int32} {l4 : Int32} {l5 : Int32} {l7 : Int32} {s0 : Int32} (k : SW sc m_X10_turns d rc rs 98 [some (.ref r0), some (.int l1), some (.int l2), some (.int l3), some (.int l4), some (.int l5), none, some (.int l7)] [.int 1, .int s0] h P) : SW sc m_X10_turns d rc rs 93 [some (.ref r0), some (.int l1), some (.int l2), some (.int l3), some (.int l4), some (.int l5), none, some (.int l7)] [.int s0] h P := by
  refine sw_iconst (v := 1) dX10_turns_93 (by decide) ?_
  exact sw_goto dX10_turns_94 (by decide) (k)
theorem b_X10_turns_97 {r0 : Nat} {l1 : Int32} {l2 : Int32} {l3 : Int32} {l4 : Int32} {l5 : Int32} {l7 : Int32} {s0 : Int32} (k : SW sc m_X10_turns d rc rs 98 [some (.ref r0), some (.int l1), some (.int l2), some (.int l3), some (.int l4), some (.int l5), none, some (.int l7)] [.int 0, .int s0] h P) : SW sc m_X10_turns d rc rs 97 [some (.ref r0), some (.int l1), some (.int l2), some (.int l3), some (.int l4), some (.int l5), none, some (.int l7)] [.int s0] h P := by
  refine sw_iconst (v := 0) dX10_turns_97 (by decide) ?_
  exact (k)
theorem b_X10_turns_98 {r0 : Nat} {l1 : Int32} {l2 : Int32} {l3 : Int32} {l4 : Int32} {l5 : Int32} {l7 : Int32} {s0 : Int32} {s1 : Int32} (k : SW sc m_X10_turns d rc rs 52 [some (.ref r0), some (.int l1), some (.int l2), some (.int l3), some (.int l4), some (.int l5), some (.int (s0 + s1)), some (.int (l7 + 1))] [] h P) : SW sc m_X10_turns d rc rs 98 [some (.ref r0), some (.int l1), some (.int l2), some (.int l3), some (.int l4), some (.int l5), none, some (.int l7)] [.int s1, .int s0] h P := by
  refine sw_iadd dX10_turns_98 ?_
  refine sw_istore dX10_turns_99 (by decide) rfl ?_
  show SW sc m_X10_turns _ _ _ 101 [some (.ref r0), some (.int l1), some (.int l2), some (.int l3), some (.int l4), some (.int l5), some (.int (s0 + s1)), some (.int l7)] [] h P
  refine sw_iinc (v := l7 + 1) dX10_turns_101 rfl rfl (by decide) rfl ?_
  show SW sc m_X10_turns _ _ _ 104 [some (.ref r0), some (.int l1), some (.int l2), some (.int l3), some (.int l4), some (.int l5), some (.int (s0 + s1)), some (.int (l7 + 1))] [] h P
  exact sw_goto dX10_turns_104 (by decide) (k)
theorem b_X10_turns_107 {r0 : Nat} {l1 : Int32} {l2 : Int32} {l3 : Int32} {l4 : Int32} {l6 : Int32} {v6 : Int32} {g6 : ab_H} {fs6 : List Value} (hr6 : (h)[r0]? = some (10, fs6)) (hm6 : MSE m_X10_turns d [.ref r0, .int l4, .int l1] h (some (.int v6)) g6) (k : SW sc m_X10_turns (d + 1) rc rs 120 [some (.ref r0), some (.int l1), some (.int l2), some (.int (l3 * (l6 * v6))), some (.int l4), none, none, none] [] g6 P) : SW sc m_X10_turns (d + 1) rc rs 107 [some (.ref r0), some (.int l1), some (.int l2), some (.int l3), some (.int l4), none, some (.int l6), none] [] h P := by
  refine sw_iload_n dX10_turns_107 rfl ?_
  refine sw_iload dX10_turns_108 rfl ?_
  refine sw_aload_n dX10_turns_110 rfl ?_
  refine sw_iload dX10_turns_111 rfl ?_
  refine sw_iload_n dX10_turns_113 rfl ?_
  refine sw_cV dX10_turns_114 lv_X10_127 hm6 hr6 rfl (by decide) rfl rfl rfl (Nat.le_of_ble_eq_true rfl) (fun _ _ => rfl) rfl ?_
  show SW sc m_X10_turns _ _ _ 117 [some (.ref r0), some (.int l1), some (.int l2), some (.int l3), some (.int l4), none, some (.int l6), none] [.int v6, .int l6, .int l3] g6 P
  refine sw_imul dX10_turns_117 ?_
  refine sw_imul dX10_turns_118 ?_
  refine sw_istore_n dX10_turns_119 (by decide) rfl ?_
  show SW sc m_X10_turns _ _ _ 120 [some (.ref r0), some (.int l1), some (.int l2), some (.int (l3 * (l6 * v6))), some (.int l4), none, some (.int l6), none] [] g6 P
  exact (sw_fg [false, false, false, false, false, false, true, false] rfl (k))
theorem b_X10_turns_120 {r0 : Nat} {l1 : Int32} {l2 : Int32} {l3 : Int32} {l4 : Int32} (k : SW sc m_X10_turns d rc rs 5 [some (.ref r0), some (.int l1), some (.int l2), some (.int l3), some (.int (l4 + 1)), none, none, none] [] h P) : SW sc m_X10_turns d rc rs 120 [some (.ref r0), some (.int l1), some (.int l2), some (.int l3), some (.int l4), none, none, none] [] h P := by
  refine sw_iinc (v := l4 + 1) dX10_turns_120 rfl rfl (by decide) rfl ?_
  show SW sc m_X10_turns _ _ _ 123 [some (.ref r0), some (.int l1), some (.int l2), some (.int l3), some (.int (l4 + 1)), none, none, none] [] h P
  exact sw_goto dX10_turns_123 (by decide) (k)
theorem b_X10_turns_126 {l3 : Int32} (hP : P (.inl (some (.int l3))) h) : SW sc m_X10_turns d rc rs 126 [none, none, none, some (.int l3), none, none, none, none] [] h P := by
  refine sw_iload_n dX10_turns_126 rfl ?_
  exact sw_ret (v := (some (.int l3))) dX10_turns_127 rt_i hP
theorem b_X10_symmetriesOf_0 {r0 : Nat} {l1 : Int32} {v2 : Int32} {g2 : ab_H} {v6 : Int32} {g6 : ab_H} {fs6 : List Value} {v7 : Int32} {g7 : ab_H} {v11 : Int32} {g11 : ab_H} {fs11 : List Value} (hm2 : MSE m_X10_lowest d [.int l1] h (some (.int v2)) g2) (hr6 : (g2)[r0]? = some (10, fs6)) (hm6 : MSE m_X10_orbit d [.ref r0, .int v2] g2 (some (.int v6)) g6) (hm7 : MSE m_X10_ones d [.int v6] g6 (some (.int v7)) g7) (hr11 : (g7)[r0]? = some (10, fs11)) (hm11 : MSE m_X10_turns d [.ref r0, .int v2, .int (-1)] g7 (some (.int v11)) g11) (hP : P (.inl (some (.int (v7 * v11)))) g11) : SW sc m_X10_symmetriesOf (d + 1) rc rs 0 [some (.ref r0), some (.int l1), none] [] h P := by
  refine sw_iload_n dX10_symmetriesOf_0 rfl ?_
  refine sw_cS dX10_symmetriesOf_1 ls_X10_87 hm2 rfl rfl (Nat.le_of_ble_eq_true rfl) (fun _ _ => rfl) rfl ?_
  show SW sc m_X10_symmetriesOf _ _ _ 4 [some (.ref r0), some (.int l1), none] [.int v2] g2 P
  refine sw_istore_n dX10_symmetriesOf_4 (by decide) rfl ?_
  show SW sc m_X10_symmetriesOf _ _ _ 5 [some (.ref r0), some (.int l1), some (.int v2)] [] g2 P
  refine sw_aload_n dX10_symmetriesOf_5 rfl ?_
  refine sw_iload_n dX10_symmetriesOf_6 rfl ?_
  refine sw_cV dX10_symmetriesOf_7 lv_X10_130 hm6 hr6 rfl (by decide) rfl rfl rfl (Nat.le_of_ble_eq_true rfl) (fun _ _ => rfl) rfl ?_
  show SW sc m_X10_symmetriesOf _ _ _ 10 [some (.ref r0), some (.int l1), some (.int v2)] [.int v6] g6 P
  refine sw_cS dX10_symmetriesOf_10 ls_X10_111 hm7 rfl rfl (Nat.le_of_ble_eq_true rfl) (fun _ _ => rfl) rfl ?_
  show SW sc m_X10_symmetriesOf _ _ _ 13 [some (.ref r0), some (.int l1), some (.int v2)] [.int v7] g7 P
  refine sw_aload_n dX10_symmetriesOf_13 rfl ?_
  refine sw_iload_n dX10_symmetriesOf_14 rfl ?_
  refine sw_iconst (v := (-1)) dX10_symmetriesOf_15 (by decide) ?_
  refine sw_cV dX10_symmetriesOf_16 lv_X10_127 hm11 hr11 rfl (by decide) rfl rfl rfl (Nat.le_of_ble_eq_true rfl) (fun _ _ => rfl) rfl ?_
  show SW sc m_X10_symmetriesOf _ _ _ 19 [some (.ref r0), some (.int l1), some (.int v2)] [.int v11, .int v7] g11 P
  refine sw_imul dX10_symmetriesOf_19 ?_
  exact sw_ret (v := (some (.int (v7 * v11)))) dX10_symmetriesOf_20 rt_i hP
theorem b_X10_classAt_0 {r0 : Nat} {l1 : Int32} {v4 : Int32} {g4 : ab_H} {fs4 : List Value} {v5 : Int32} {g5 : ab_H} {fs5 : List Value} (hr4 : (h)[r0]? = some (10, fs4)) (hm4 : MSE m_X10_componentAt d [.ref r0, .int l1] h (some (.int v4)) g4) (hr5 : (g4)[r0]? = some (10, fs5)) (hm5 : MSE m_X10_wordOfSet d [.ref r0, .int v4] g4 (some (.int v5)) g5) (k : SW sc m_X10_classAt (d + 1) rc rs 15 [some (.ref r0), some (.int l1), some (.int v5), some (.int 0), some (.int 0), none] [] g5 P) : SW sc m_X10_classAt (d + 1) rc rs 0 [some (.ref r0), some (.int l1), none, none, none, none] [] h P := by
  refine sw_aload_n dX10_classAt_0 rfl ?_
  refine sw_aload_n dX10_classAt_1 rfl ?_
  refine sw_iload_n dX10_classAt_2 rfl ?_
  refine sw_cV dX10_classAt_3 lv_X10_133 hm4 hr4 rfl (by decide) rfl rfl rfl (Nat.le_of_ble_eq_true rfl) (fun _ _ => rfl) rfl ?_
  show SW sc m_X10_classAt _ _ _ 6 [some (.ref r0), some (.int l1), none, none, none, none] [.int v4, .ref r0] g4 P
  refine sw_cV dX10_classAt_6 lv_X10_136 hm5 hr5 rfl (by decide) rfl rfl rfl (Nat.le_of_ble_eq_true rfl) (fun _ _ => rfl) rfl ?_
  show SW sc m_X10_classAt _ _ _ 9 [some (.ref r0), some (.int l1), none, none, none, none] [.int v5] g5 P
  refine sw_istore_n dX10_classAt_9 (by decide) rfl ?_
  show SW sc m_X10_classAt _ _ _ 10 [some (.ref r0), some (.int l1), some (.int v5), none, none, none] [] g5 P
  refine sw_iconst (v := 0) dX10_classAt_10 (by decide) ?_
  refine sw_istore_n dX10_classAt_11 (by decide) rfl ?_
  show SW sc m_X10_classAt _ _ _ 12 [some (.ref r0), some (.int l1), some (.int v5), some (.int 0), none, none] [] g5 P
  refine sw_iconst (v := 0) dX10_classAt_12 (by decide) ?_
  refine sw_istore dX10_classAt_13 (by decide) rfl ?_
  show SW sc m_X10_classAt _ _ _ 15 [some (.ref r0), some (.int l1), some (.int v5), some (.int 0), some (.int 0), none] [] g5 P
  exact (k)
theorem b_X10_classAt_15 {r0 : Nat} {l1 : Int32} {l2 : Int32} {l3 : Int32} {l4 : Int32} (kt : l1 ≤ l4 → SW sc m_X10_classAt d rc rs 69 [none, none, none, some (.int l3), none, none] [] h P) (kf : ¬ (l1 ≤ l4) → SW sc m_X10_classAt d rc rs 21 [some (.ref r0), some (.int l1), some (.int l2), some (.int l3), some (.int l4), none] [] h P) : SW sc m_X10_classAt d rc rs 15 [some (.ref r0), some (.int l1), some (.int l2), some (.int l3), some (.int l4), none] [] h P := by
  refine sw_iload dX10_classAt_15 rfl ?_
  refine sw_iload_n dX10_classAt_17 rfl ?_
  exact sw_icmp_ge dX10_classAt_18 (by decide) (fun q => (sw_fg [true, true, true, false, true, false] rfl (kt q))) (fun q => (kf q))
theorem b_X10_classAt_21 {r0 : Nat} {l1 : Int32} {l2 : Int32} {l3 : Int32} {l4 : Int32} {v4 : Int32} {g4 : ab_H} {fs4 : List Value} {v5 : Int32} {g5 : ab_H} {fs5 : List Value} (hr4 : (h)[r0]? = some (10, fs4)) (hm4 : MSE m_X10_componentAt d [.ref r0, .int l4] h (some (.int v4)) g4) (hr5 : (g4)[r0]? = some (10, fs5)) (hm5 : MSE m_X10_wordOfSet d [.ref r0, .int v4] g4 (some (.int v5)) g5) (kt : ¬ v5 = l2 → SW sc m_X10_classAt (d + 1) rc rs 46 [some (.ref r0), some (.int l1), some (.int l2), some (.int l3), some (.int l4), none] [] g5 P) (kf : v5 = l2 → SW sc m_X10_classAt (d + 1) rc rs 39 [some (.ref r0), none, none, none, some (.int l4), none] [] g5 P) : SW sc m_X10_classAt (d + 1) rc rs 21 [some (.ref r0), some (.int l1), some (.int l2), some (.int l3), some (.int l4), none] [] h P := by
  refine sw_aload_n dX10_classAt_21 rfl ?_
  refine sw_aload_n dX10_classAt_22 rfl ?_
  refine sw_iload dX10_classAt_23 rfl ?_
  refine sw_cV dX10_classAt_25 lv_X10_133 hm4 hr4 rfl (by decide) rfl rfl rfl (Nat.le_of_ble_eq_true rfl) (fun _ _ => rfl) rfl ?_
  show SW sc m_X10_classAt _ _ _ 28 [some (.ref r0), some (.int l1), some (.int l2), some (.int l3), some (.int l4), none] [.int v4, .ref r0] g4 P
  refine sw_cV dX10_classAt_28 lv_X10_136 hm5 hr5 rfl (by decide) rfl rfl rfl (Nat.le_of_ble_eq_true rfl) (fun _ _ => rfl) rfl ?_
  show SW sc m_X10_classAt _ _ _ 31 [some (.ref r0), some (.int l1), some (.int l2), some (.int l3), some (.int l4), none] [.int v5] g5 P
  refine sw_istore dX10_classAt_31 (by decide) rfl ?_
  show SW sc m_X10_classAt _ _ _ 33 [some (.ref r0), some (.int l1), some (.int l2), some (.int l3), some (.int l4), some (.int v5)] [] g5 P
  refine sw_iload dX10_classAt_33 rfl ?_
  refine sw_iload_n dX10_classAt_35 rfl ?_
  exact sw_icmp_ne dX10_classAt_36 (by decide) (fun q => (sw_fg [false, false, false, false, false, true] rfl (kt q))) (fun q => (sw_fg [false, true, true, true, false, true] rfl (kf q)))
theorem b_X10_classAt_39 {r0 : Nat} {l4 : Int32} {v3 : Int32} {g3 : ab_H} {fs3 : List Value} (hr3 : (h)[r0]? = some (10, fs3)) (hm3 : MSE m_X10_classAt d [.ref r0, .int l4] h (some (.int v3)) g3) (hP : P (.inl (some (.int v3))) g3) : SW sc m_X10_classAt (d + 1) rc rs 39 [some (.ref r0), none, none, none, some (.int l4), none] [] h P := by
  refine sw_aload_n dX10_classAt_39 rfl ?_
  refine sw_iload dX10_classAt_40 rfl ?_
  refine sw_cV dX10_classAt_42 lv_X10_139 hm3 hr3 rfl (by decide) rfl rfl rfl (Nat.le_of_ble_eq_true rfl) (fun _ _ => rfl) rfl ?_
  show SW sc m_X10_classAt _ _ _ 45 [some (.ref r0), none, none, none, some (.int l4), none] [.int v3] g3 P
  exact sw_ret (v := (some (.int v3))) dX10_classAt_45 rt_i hP
theorem b_X10_classAt_46 {r0 : Nat} {l1 : Int32} {l2 : Int32} {l3 : Int32} {l4 : Int32} {v4 : Int32} {g4 : ab_H} {fs4 : List Value} (hr4 : (h)[r0]? = some (10, fs4)) (hm4 : MSE m_X10_isNew d [.ref r0, .int l4] h (some (.int v4)) g4) (kt : v4 = 0 → SW sc m_X10_classAt (d + 1) rc rs 60 [some (.ref r0), some (.int l1), some (.int l2), none, some (.int l4), none] [.int l3] g4 P) (kf : ¬ (v4 = 0) → SW sc m_X10_classAt (d + 1) rc rs 56 [some (.ref r0), some (.int l1), some (.int l2), none, some (.int l4), none] [.int l3] g4 P) : SW sc m_X10_classAt (d + 1) rc rs 46 [some (.ref r0), some (.int l1), some (.int l2), some (.int l3), some (.int l4), none] [] h P := by
  refine sw_iload_n dX10_classAt_46 rfl ?_
  refine sw_aload_n dX10_classAt_47 rfl ?_
  refine sw_iload dX10_classAt_48 rfl ?_
  refine sw_cV dX10_classAt_50 lv_X10_142 hm4 hr4 rfl (by decide) rfl rfl rfl (Nat.le_of_ble_eq_true rfl) (fun _ _ => rfl) rfl ?_
  show SW sc m_X10_classAt _ _ _ 53 [some (.ref r0), some (.int l1), some (.int l2), some (.int l3), some (.int l4), none] [.int v4, .int l3] g4 P
  exact sw_if_eq dX10_classAt_53 (by decide) (fun q => (sw_fg [false, false, false, true, false, false] rfl (kt q))) (fun q => (sw_fg [false, false, false, true, false, false] rfl (kf q)))
theorem b_X10_classAt_56 {r0 : Nat} {l1 : Int32} {l2 : Int32} {l4 : Int32} {s0 : Int32} (k : SW sc m_X10_classAt d rc rs 61 [some (.ref r0), some (.int l1), some (.int l2), none, some (.int l4), none] [.int 1, .int s0] h P) : SW sc m_X10_classAt d rc rs 56 [some (.ref r0), some (.int l1), some (.int l2), none, some (.int l4), none] [.int s0] h P := by
  refine sw_iconst (v := 1) dX10_classAt_56 (by decide) ?_
  exact sw_goto dX10_classAt_57 (by decide) (k)
theorem b_X10_classAt_60 {r0 : Nat} {l1 : Int32} {l2 : Int32} {l4 : Int32} {s0 : Int32} (k : SW sc m_X10_classAt d rc rs 61 [some (.ref r0), some (.int l1), some (.int l2), none, some (.int l4), none] [.int 0, .int s0] h P) : SW sc m_X10_classAt d rc rs 60 [some (.ref r0), some (.int l1), some (.int l2), none, some (.int l4), none] [.int s0] h P := by
  refine sw_iconst (v := 0) dX10_classAt_60 (by decide) ?_
  exact (k)
theorem b_X10_classAt_61 {r0 : Nat} {l1 : Int32} {l2 : Int32} {l4 : Int32} {s0 : Int32} {s1 : Int32} (k : SW sc m_X10_classAt d rc rs 15 [some (.ref r0), some (.int l1), some (.int l2), some (.int (s0 + s1)), some (.int (l4 + 1)), none] [] h P) : SW sc m_X10_classAt d rc rs 61 [some (.ref r0), some (.int l1), some (.int l2), none, some (.int l4), none] [.int s1, .int s0] h P := by
  refine sw_iadd dX10_classAt_61 ?_
  refine sw_istore_n dX10_classAt_62 (by decide) rfl ?_
  show SW sc m_X10_classAt _ _ _ 63 [some (.ref r0), some (.int l1), some (.int l2), some (.int (s0 + s1)), some (.int l4), none] [] h P
  refine sw_iinc (v := l4 + 1) dX10_classAt_63 rfl rfl (by decide) rfl ?_
  show SW sc m_X10_classAt _ _ _ 66 [some (.ref r0), some (.int l1), some (.int l2), some (.int (s0 + s1)), some (.int (l4 + 1)), none] [] h P
  exact sw_goto dX10_classAt_66 (by decide) (k)
theorem b_X10_classAt_69 {l3 : Int32} (hP : P (.inl (some (.int l3))) h) : SW sc m_X10_classAt d rc rs 69 [none, none, none, some (.int l3), none, none] [] h P := by
  refine sw_iload_n dX10_classAt_69 rfl ?_
  exact sw_ret (v := (some (.int l3))) dX10_classAt_70 rt_i hP
theorem b_X10_isNew_0 {r0 : Nat} {l1 : Int32} {v4 : Int32} {g4 : ab_H} {fs4 : List Value} {v5 : Int32} {g5 : ab_H} {fs5 : List Value} (hr4 : (h)[r0]? = some (10, fs4)) (hm4 : MSE m_X10_componentAt d [.ref r0, .int l1] h (some (.int v4)) g4) (hr5 : (g4)[r0]? = some (10, fs5)) (hm5 : MSE m_X10_wordOfSet d [.ref r0, .int v4] g4 (some (.int v5)) g5) (k : SW sc m_X10_isNew (d + 1) rc rs 12 [some (.ref r0), some (.int l1), some (.int v5), some (.int 0)] [] g5 P) : SW sc m_X10_isNew (d + 1) rc rs 0 [some (.ref r0), some (.int l1), none, none] [] h P := by
  refine sw_aload_n dX10_isNew_0 rfl ?_
  refine sw_aload_n dX10_isNew_1 rfl ?_
  refine sw_iload_n dX10_isNew_2 rfl ?_
  refine sw_cV dX10_isNew_3 lv_X10_133 hm4 hr4 rfl (by decide) rfl rfl rfl (Nat.le_of_ble_eq_true rfl) (fun _ _ => rfl) rfl ?_
  show SW sc m_X10_isNew _ _ _ 6 [some (.ref r0), some (.int l1), none, none] [.int v4, .ref r0] g4 P
  refine sw_cV dX10_isNew_6 lv_X10_136 hm5 hr5 rfl (by decide) rfl rfl rfl (Nat.le_of_ble_eq_true rfl) (fun _ _ => rfl) rfl ?_
  show SW sc m_X10_isNew _ _ _ 9 [some (.ref r0), some (.int l1), none, none] [.int v5] g5 P
  refine sw_istore_n dX10_isNew_9 (by decide) rfl ?_
  show SW sc m_X10_isNew _ _ _ 10 [some (.ref r0), some (.int l1), some (.int v5), none] [] g5 P
  refine sw_iconst (v := 0) dX10_isNew_10 (by decide) ?_
  refine sw_istore_n dX10_isNew_11 (by decide) rfl ?_
  show SW sc m_X10_isNew _ _ _ 12 [some (.ref r0), some (.int l1), some (.int v5), some (.int 0)] [] g5 P
  exact (k)
theorem b_X10_isNew_12 {r0 : Nat} {l1 : Int32} {l2 : Int32} {l3 : Int32} (kt : l1 ≤ l3 → SW sc m_X10_isNew d rc rs 38 [none, none, none, none] [] h P) (kf : ¬ (l1 ≤ l3) → SW sc m_X10_isNew d rc rs 17 [some (.ref r0), some (.int l1), some (.int l2), some (.int l3)] [] h P) : SW sc m_X10_isNew d rc rs 12 [some (.ref r0), some (.int l1), some (.int l2), some (.int l3)] [] h P := by
  refine sw_iload_n dX10_isNew_12 rfl ?_
  refine sw_iload_n dX10_isNew_13 rfl ?_
  exact sw_icmp_ge dX10_isNew_14 (by decide) (fun q => (sw_fg [true, true, true, true] rfl (kt q))) (fun q => (kf q))
theorem b_X10_isNew_17 {r0 : Nat} {l1 : Int32} {l2 : Int32} {l3 : Int32} {v4 : Int32} {g4 : ab_H} {fs4 : List Value} {v5 : Int32} {g5 : ab_H} {fs5 : List Value} (hr4 : (h)[r0]? = some (10, fs4)) (hm4 : MSE m_X10_componentAt d [.ref r0, .int l3] h (some (.int v4)) g4) (hr5 : (g4)[r0]? = some (10, fs5)) (hm5 : MSE m_X10_wordOfSet d [.ref r0, .int v4] g4 (some (.int v5)) g5) (kt : ¬ v5 = l2 → SW sc m_X10_isNew (d + 1) rc rs 32 [some (.ref r0), some (.int l1), some (.int l2), some (.int l3)] [] g5 P) (kf : v5 = l2 → SW sc m_X10_isNew (d + 1) rc rs 30 [none, none, none, none] [] g5 P) : SW sc m_X10_isNew (d + 1) rc rs 17 [some (.ref r0), some (.int l1), some (.int l2), some (.int l3)] [] h P := by
  refine sw_aload_n dX10_isNew_17 rfl ?_
  refine sw_aload_n dX10_isNew_18 rfl ?_
  refine sw_iload_n dX10_isNew_19 rfl ?_
  refine sw_cV dX10_isNew_20 lv_X10_133 hm4 hr4 rfl (by decide) rfl rfl rfl (Nat.le_of_ble_eq_true rfl) (fun _ _ => rfl) rfl ?_
  show SW sc m_X10_isNew _ _ _ 23 [some (.ref r0), some (.int l1), some (.int l2), some (.int l3)] [.int v4, .ref r0] g4 P
  refine sw_cV dX10_isNew_23 lv_X10_136 hm5 hr5 rfl (by decide) rfl rfl rfl (Nat.le_of_ble_eq_true rfl) (fun _ _ => rfl) rfl ?_
  show SW sc m_X10_isNew _ _ _ 26 [some (.ref r0), some (.int l1), some (.int l2), some (.int l3)] [.int v5] g5 P
  refine sw_iload_n dX10_isNew_26 rfl ?_
  exact sw_icmp_ne dX10_isNew_27 (by decide) (fun q => (kt q)) (fun q => (sw_fg [true, true, true, true] rfl (kf q)))
theorem b_X10_isNew_30  (hP : P (.inl (some (.int 0))) h) : SW sc m_X10_isNew d rc rs 30 [none, none, none, none] [] h P := by
  refine sw_iconst (v := 0) dX10_isNew_30 (by decide) ?_
  exact sw_ret (v := (some (.int 0))) dX10_isNew_31 (rt_n (by decide)) hP
theorem b_X10_isNew_32 {r0 : Nat} {l1 : Int32} {l2 : Int32} {l3 : Int32} (k : SW sc m_X10_isNew d rc rs 12 [some (.ref r0), some (.int l1), some (.int l2), some (.int (l3 + 1))] [] h P) : SW sc m_X10_isNew d rc rs 32 [some (.ref r0), some (.int l1), some (.int l2), some (.int l3)] [] h P := by
  refine sw_iinc (v := l3 + 1) dX10_isNew_32 rfl rfl (by decide) rfl ?_
  show SW sc m_X10_isNew _ _ _ 35 [some (.ref r0), some (.int l1), some (.int l2), some (.int (l3 + 1))] [] h P
  exact sw_goto dX10_isNew_35 (by decide) (k)
theorem b_X10_isNew_38  (hP : P (.inl (some (.int 1))) h) : SW sc m_X10_isNew d rc rs 38 [none, none, none, none] [] h P := by
  refine sw_iconst (v := 1) dX10_isNew_38 (by decide) ?_
  exact sw_ret (v := (some (.int 1))) dX10_isNew_39 (rt_n (by decide)) hP
theorem b_X10_adds_0 {r0 : Nat} {l1 : Int32} (k : SW sc m_X10_adds d rc rs 3 [some (.ref r0), some (.int l1), some (.int 24)] [] h P) : SW sc m_X10_adds d rc rs 0 [some (.ref r0), some (.int l1), none] [] h P := by
  refine sw_bipush (v := 24) dX10_adds_0 (by decide) ?_
  refine sw_istore_n dX10_adds_2 (by decide) rfl ?_
  show SW sc m_X10_adds _ _ _ 3 [some (.ref r0), some (.int l1), some (.int 24)] [] h P
  exact (k)
theorem b_X10_adds_3 {r0 : Nat} {l1 : Int32} {l2 : Int32} (kt : l2 < 0 → SW sc m_X10_adds d rc rs 39 [none, none, none] [] h P) (kf : ¬ (l2 < 0) → SW sc m_X10_adds d rc rs 7 [some (.ref r0), some (.int l1), some (.int l2)] [] h P) : SW sc m_X10_adds d rc rs 3 [some (.ref r0), some (.int l1), some (.int l2)] [] h P := by
  refine sw_iload_n dX10_adds_3 rfl ?_
  exact sw_if_lt dX10_adds_4 (by decide) (fun q => (sw_fg [true, true, true] rfl (kt q))) (fun q => (kf q))
theorem b_X10_adds_7 {r0 : Nat} {l1 : Int32} {l2 : Int32} {fs2 : List Value} {a2 : Nat} {fs4 : List Value} {x4 : Int32} {vs10 : List Value} {fs13 : List Value} {x13 : Int32} {fs16 : List Value} (hc2 : (h)[r0]? = some (10, fs2)) (hv2 : fs2[12]? = some (.ref a2)) (hc4 : (h)[r0]? = some (10, fs4)) (hv4 : fs4[13]? = some (.int x4)) (hc10 : (h)[a2]? = some (100, vs10)) (ho10 : ¬ x4 < 0) (hl10 : x4.toNatClampNeg < vs10.length) (hc13 : ((h).set a2 (100, vs10.set x4.toNatClampNeg (.int (((l1.toUInt32 >>> (l2.toUInt32 &&& Int32.toUInt32 31)).toInt32) &&& 255))))[r0]? = some (10, fs13)) (hv13 : fs13[13]? = some (.int x13)) (hc16 : ((h).set a2 (100, vs10.set x4.toNatClampNeg (.int (((l1.toUInt32 >>> (l2.toUInt32 &&& Int32.toUInt32 31)).toInt32) &&& 255))))[r0]? = some (10, fs16)) (hk16 : 13 < fs16.length) (k : SW sc m_X10_adds d rc rs 3 [some (.ref r0), some (.int l1), some (.int (l2 + (-8)))] [] (((h).set a2 (100, vs10.set x4.toNatClampNeg (.int (((l1.toUInt32 >>> (l2.toUInt32 &&& Int32.toUInt32 31)).toInt32) &&& 255)))).set r0 (10, fs16.set 13 (.int (x13 + 1)))) P) : SW sc m_X10_adds d rc rs 7 [some (.ref r0), some (.int l1), some (.int l2)] [] h P := by
  refine sw_aload_n dX10_adds_7 rfl ?_
  refine sw_getf dX10_adds_8 lf_X10_41 hc2 hv2 ?_
  refine sw_aload_n dX10_adds_11 rfl ?_
  refine sw_getf dX10_adds_12 lf_X10_146 hc4 hv4 ?_
  refine sw_iload_n dX10_adds_15 rfl ?_
  refine sw_iload_n dX10_adds_16 rfl ?_
  refine sw_iushr dX10_adds_17 ?_
  refine sw_sipush (v := 255) dX10_adds_18 (by decide) ?_
  refine sw_iand dX10_adds_21 ?_
  refine sw_iast dX10_adds_22 hc10 ho10 hl10 ?_
  refine sw_aload_n dX10_adds_23 rfl ?_
  refine sw_dup dX10_adds_24 (fun _ _ => rfl) ?_
  refine sw_getf dX10_adds_25 lf_X10_146 hc13 hv13 ?_
  refine sw_iconst (v := 1) dX10_adds_28 (by decide) ?_
  refine sw_iadd dX10_adds_29 ?_
  refine sw_putf dX10_adds_30 lp_X10_146 hc16 hk16 (fun _ _ => ⟨rfl, rfl⟩) ?_
  refine sw_iinc (v := l2 + (-8)) dX10_adds_33 rfl rfl (by decide) rfl ?_
  show SW sc m_X10_adds _ _ _ 36 [some (.ref r0), some (.int l1), some (.int (l2 + (-8)))] [] (((h).set a2 (100, vs10.set x4.toNatClampNeg (.int (((l1.toUInt32 >>> (l2.toUInt32 &&& Int32.toUInt32 31)).toInt32) &&& 255)))).set r0 (10, fs16.set 13 (.int (x13 + 1)))) P
  exact sw_goto dX10_adds_36 (by decide) (k)
theorem b_X10_adds_39  (hP : P (.inl none) h) : SW sc m_X10_adds d rc rs 39 [none, none, none] [] h P := by
  exact sw_ret (v := none) dX10_adds_39 rt_v hP
theorem b_X10_append_0 {r0 : Nat} {l1 : Int32} {l2 : Int32} {l3 : Int32} {l4 : Int32} {l5 : Int32} {fs3 : List Value} {fs5 : List Value} {x5 : Int32} (hc3 : (h)[r0]? = some (10, fs3)) (hk3 : 0 < fs3.length) (hc5 : ((h).set r0 (10, fs3.set 0 (.int 0)))[r0]? = some (10, fs5)) (hv5 : fs5[13]? = some (.int x5)) (kt : (x5 + 20) ≤ 400 → SW sc m_X10_append d rc rs 20 [some (.ref r0), some (.int l1), some (.int l2), some (.int l3), some (.int l4), some (.int l5)] [] ((h).set r0 (10, fs3.set 0 (.int 0))) P) (kf : ¬ ((x5 + 20) ≤ 400) → SW sc m_X10_append d rc rs 18 [none, none, none, none, none, none] [] ((h).set r0 (10, fs3.set 0 (.int 0))) P) : SW sc m_X10_append d rc rs 0 [some (.ref r0), some (.int l1), some (.int l2), some (.int l3), some (.int l4), some (.int l5)] [] h P := by
  refine sw_aload_n dX10_append_0 rfl ?_
  refine sw_iconst (v := 0) dX10_append_1 (by decide) ?_
  refine sw_putf dX10_append_2 lp_X10_1 hc3 hk3 (fun _ _ => ⟨rfl, rfl⟩) ?_
  refine sw_aload_n dX10_append_5 rfl ?_
  refine sw_getf dX10_append_6 lf_X10_146 hc5 hv5 ?_
  refine sw_bipush (v := 20) dX10_append_9 (by decide) ?_
  refine sw_iadd dX10_append_11 ?_
  refine sw_sipush (v := 400) dX10_append_12 (by decide) ?_
  exact sw_icmp_le dX10_append_15 (by decide) (fun q => (kt q)) (fun q => (sw_fg [true, true, true, true, true, true] rfl (kf q)))
theorem b_X10_append_18  (hP : P (.inl (some (.int (-1)))) h) : SW sc m_X10_append d rc rs 18 [none, none, none, none, none, none] [] h P := by
  refine sw_iconst (v := (-1)) dX10_append_18 (by decide) ?_
  exact sw_ret (v := (some (.int (-1)))) dX10_append_19 rt_i hP
theorem b_X10_append_20 {r0 : Nat} {l1 : Int32} {l2 : Int32} {l3 : Int32} {l4 : Int32} {l5 : Int32} {g3 : ab_H} {fs3 : List Value} {g6 : ab_H} {fs6 : List Value} {g9 : ab_H} {fs9 : List Value} {g12 : ab_H} {fs12 : List Value} {g15 : ab_H} {fs15 : List Value} {fs17 : List Value} {x17 : Int32} (hr3 : (h)[r0]? = some (10, fs3)) (hm3 : MSE m_X10_adds d [.ref r0, .int l1] h none g3) (hr6 : (g3)[r0]? = some (10, fs6)) (hm6 : MSE m_X10_adds d [.ref r0, .int l2] g3 none g6) (hr9 : (g6)[r0]? = some (10, fs9)) (hm9 : MSE m_X10_adds d [.ref r0, .int l3] g6 none g9) (hr12 : (g9)[r0]? = some (10, fs12)) (hm12 : MSE m_X10_adds d [.ref r0, .int l4] g9 none g12) (hr15 : (g12)[r0]? = some (10, fs15)) (hm15 : MSE m_X10_adds d [.ref r0, .int l5] g12 none g15) (hc17 : (g15)[r0]? = some (10, fs17)) (hv17 : fs17[13]? = some (.int x17)) (hP : P (.inl (some (.int x17))) g15) : SW sc m_X10_append (d + 1) rc rs 20 [some (.ref r0), some (.int l1), some (.int l2), some (.int l3), some (.int l4), some (.int l5)] [] h P := by
  refine sw_aload_n dX10_append_20 rfl ?_
  refine sw_iload_n dX10_append_21 rfl ?_
  refine sw_cV dX10_append_22 lv_X10_149 hm3 hr3 rfl (by decide) rfl rfl rfl (Nat.le_of_ble_eq_true rfl) (fun _ _ => rfl) rfl ?_
  show SW sc m_X10_append _ _ _ 25 [some (.ref r0), some (.int l1), some (.int l2), some (.int l3), some (.int l4), some (.int l5)] [] g3 P
  refine sw_aload_n dX10_append_25 rfl ?_
  refine sw_iload_n dX10_append_26 rfl ?_
  refine sw_cV dX10_append_27 lv_X10_149 hm6 hr6 rfl (by decide) rfl rfl rfl (Nat.le_of_ble_eq_true rfl) (fun _ _ => rfl) rfl ?_
  show SW sc m_X10_append _ _ _ 30 [some (.ref r0), some (.int l1), some (.int l2), some (.int l3), some (.int l4), some (.int l5)] [] g6 P
  refine sw_aload_n dX10_append_30 rfl ?_
  refine sw_iload_n dX10_append_31 rfl ?_
  refine sw_cV dX10_append_32 lv_X10_149 hm9 hr9 rfl (by decide) rfl rfl rfl (Nat.le_of_ble_eq_true rfl) (fun _ _ => rfl) rfl ?_
  show SW sc m_X10_append _ _ _ 35 [some (.ref r0), some (.int l1), some (.int l2), some (.int l3), some (.int l4), some (.int l5)] [] g9 P
  refine sw_aload_n dX10_append_35 rfl ?_
  refine sw_iload dX10_append_36 rfl ?_
  refine sw_cV dX10_append_38 lv_X10_149 hm12 hr12 rfl (by decide) rfl rfl rfl (Nat.le_of_ble_eq_true rfl) (fun _ _ => rfl) rfl ?_
  show SW sc m_X10_append _ _ _ 41 [some (.ref r0), some (.int l1), some (.int l2), some (.int l3), some (.int l4), some (.int l5)] [] g12 P
  refine sw_aload_n dX10_append_41 rfl ?_
  refine sw_iload dX10_append_42 rfl ?_
  refine sw_cV dX10_append_44 lv_X10_149 hm15 hr15 rfl (by decide) rfl rfl rfl (Nat.le_of_ble_eq_true rfl) (fun _ _ => rfl) rfl ?_
  show SW sc m_X10_append _ _ _ 47 [some (.ref r0), some (.int l1), some (.int l2), some (.int l3), some (.int l4), some (.int l5)] [] g15 P
  refine sw_aload_n dX10_append_47 rfl ?_
  refine sw_getf dX10_append_48 lf_X10_146 hc17 hv17 ?_
  exact sw_ret (v := (some (.int x17))) dX10_append_51 rt_i hP
theorem b_X10_truncate_0 {r0 : Nat} {l1 : Int32} {fs3 : List Value} {fs7 : List Value} {x7 : Int32} {v8 : Int32} {g8 : ab_H} (hc3 : (h)[r0]? = some (10, fs3)) (hk3 : 0 < fs3.length) (hc7 : ((h).set r0 (10, fs3.set 0 (.int 0)))[r0]? = some (10, fs7)) (hv7 : fs7[13]? = some (.int x7)) (hm8 : MSE m_X10_isIn d [.int l1, .int 0, .int x7] ((h).set r0 (10, fs3.set 0 (.int 0))) (some (.int v8)) g8) (kt : ¬ v8 = 0 → SW sc m_X10_truncate (d + 1) rc rs 19 [some (.ref r0), some (.int l1)] [] g8 P) (kf : v8 = 0 → SW sc m_X10_truncate (d + 1) rc rs 17 [none, none] [] g8 P) : SW sc m_X10_truncate (d + 1) rc rs 0 [some (.ref r0), some (.int l1)] [] h P := by
  refine sw_aload_n dX10_truncate_0 rfl ?_
  refine sw_iconst (v := 0) dX10_truncate_1 (by decide) ?_
  refine sw_putf dX10_truncate_2 lp_X10_1 hc3 hk3 (fun _ _ => ⟨rfl, rfl⟩) ?_
  refine sw_iload_n dX10_truncate_5 rfl ?_
  refine sw_iconst (v := 0) dX10_truncate_6 (by decide) ?_
  refine sw_aload_n dX10_truncate_7 rfl ?_
  refine sw_getf dX10_truncate_8 lf_X10_146 hc7 hv7 ?_
  refine sw_cS dX10_truncate_11 ls_X10_153 hm8 rfl rfl (Nat.le_of_ble_eq_true rfl) (fun _ _ => rfl) rfl ?_
  show SW sc m_X10_truncate _ _ _ 14 [some (.ref r0), some (.int l1)] [.int v8] g8 P
  exact sw_if_ne dX10_truncate_14 (by decide) (fun q => (kt q)) (fun q => (sw_fg [true, true] rfl (kf q)))
theorem b_X10_truncate_17  (hP : P (.inl (some (.int 0))) h) : SW sc m_X10_truncate d rc rs 17 [none, none] [] h P := by
  refine sw_iconst (v := 0) dX10_truncate_17 (by decide) ?_
  exact sw_ret (v := (some (.int 0))) dX10_truncate_18 (rt_n (by decide)) hP
theorem b_X10_truncate_19 {r0 : Nat} {l1 : Int32} {fs3 : List Value} (hc3 : (h)[r0]? = some (10, fs3)) (hk3 : 13 < fs3.length) (hP : P (.inl (some (.int 1))) ((h).set r0 (10, fs3.set 13 (.int l1)))) : SW sc m_X10_truncate d rc rs 19 [some (.ref r0), some (.int l1)] [] h P := by
  refine sw_aload_n dX10_truncate_19 rfl ?_
  refine sw_iload_n dX10_truncate_20 rfl ?_
  refine sw_putf dX10_truncate_21 lp_X10_146 hc3 hk3 (fun _ _ => ⟨rfl, rfl⟩) ?_
  refine sw_iconst (v := 1) dX10_truncate_24 (by decide) ?_
  exact sw_ret (v := (some (.int 1))) dX10_truncate_25 (rt_n (by decide)) hP
theorem b_X10_bufferLength_0 {r0 : Nat} {fs3 : List Value} {fs5 : List Value} {x5 : Int32} (hc3 : (h)[r0]? = some (10, fs3)) (hk3 : 0 < fs3.length) (hc5 : ((h).set r0 (10, fs3.set 0 (.int 0)))[r0]? = some (10, fs5)) (hv5 : fs5[13]? = some (.int x5)) (hP : P (.inl (some (.int x5))) ((h).set r0 (10, fs3.set 0 (.int 0)))) : SW sc m_X10_bufferLength d rc rs 0 [some (.ref r0)] [] h P := by
  refine sw_aload_n dX10_bufferLength_0 rfl ?_
  refine sw_iconst (v := 0) dX10_bufferLength_1 (by decide) ?_
  refine sw_putf dX10_bufferLength_2 lp_X10_1 hc3 hk3 (fun _ _ => ⟨rfl, rfl⟩) ?_
  refine sw_aload_n dX10_bufferLength_5 rfl ?_
  refine sw_getf dX10_bufferLength_6 lf_X10_146 hc5 hv5 ?_
  exact sw_ret (v := (some (.int x5))) dX10_bufferLength_9 rt_i hP
theorem b_X10_byteAt_0 {r0 : Nat} {l1 : Int32} {fs3 : List Value} {x3 : Int32} (hc3 : (h)[r0]? = some (10, fs3)) (hv3 : fs3[14]? = some (.int x3)) (kt : x3 ≤ l1 → SW sc m_X10_byteAt d rc rs 17 [none, none] [] h P) (kf : ¬ (x3 ≤ l1) → SW sc m_X10_byteAt d rc rs 8 [some (.ref r0), some (.int l1)] [] h P) : SW sc m_X10_byteAt d rc rs 0 [some (.ref r0), some (.int l1)] [] h P := by
  refine sw_iload_n dX10_byteAt_0 rfl ?_
  refine sw_aload_n dX10_byteAt_1 rfl ?_
  refine sw_getf dX10_byteAt_2 lf_X10_157 hc3 hv3 ?_
  exact sw_icmp_ge dX10_byteAt_5 (by decide) (fun q => (sw_fg [true, true] rfl (kt q))) (fun q => (kf q))
theorem b_X10_byteAt_8 {r0 : Nat} {l1 : Int32} {fs2 : List Value} {a2 : Nat} {vs4 : List Value} {x4 : Int32} (hc2 : (h)[r0]? = some (10, fs2)) (hv2 : fs2[12]? = some (.ref a2)) (hc4 : (h)[a2]? = some (100, vs4)) (ho4 : ¬ l1 < 0) (hi4 : vs4[l1.toNatClampNeg]? = some (.int x4)) (k : SW sc m_X10_byteAt d rc rs 18 [none, none] [.int x4] h P) : SW sc m_X10_byteAt d rc rs 8 [some (.ref r0), some (.int l1)] [] h P := by
  refine sw_aload_n dX10_byteAt_8 rfl ?_
  refine sw_getf dX10_byteAt_9 lf_X10_41 hc2 hv2 ?_
  refine sw_iload_n dX10_byteAt_12 rfl ?_
  refine sw_iald dX10_byteAt_13 hc4 ho4 hi4 ?_
  exact sw_goto dX10_byteAt_14 (by decide) (sw_fg [true, true] rfl (k))
theorem b_X10_byteAt_17  (k : SW sc m_X10_byteAt d rc rs 18 [none, none] [.int (-1)] h P) : SW sc m_X10_byteAt d rc rs 17 [none, none] [] h P := by
  refine sw_iconst (v := (-1)) dX10_byteAt_17 (by decide) ?_
  exact (k)
theorem b_X10_byteAt_18 {s0 : Int32} (hP : P (.inl (some (.int s0))) h) : SW sc m_X10_byteAt d rc rs 18 [none, none] [.int s0] h P := by
  exact sw_ret (v := (some (.int s0))) dX10_byteAt_18 rt_i hP
theorem b_X10_isSmall_0 {l0 : Int32} (kt : l0 < 97 → SW sc m_X10_isSmall d rc rs 16 [none] [] h P) (kf : ¬ (l0 < 97) → SW sc m_X10_isSmall d rc rs 6 [some (.int l0)] [] h P) : SW sc m_X10_isSmall d rc rs 0 [some (.int l0)] [] h P := by
  refine sw_iload_n dX10_isSmall_0 rfl ?_
  refine sw_bipush (v := 97) dX10_isSmall_1 (by decide) ?_
  exact sw_icmp_lt dX10_isSmall_3 (by decide) (fun q => (sw_fg [true] rfl (kt q))) (fun q => (kf q))
theorem b_X10_isSmall_6 {l0 : Int32} (kt : 122 < l0 → SW sc m_X10_isSmall d rc rs 16 [none] [] h P) (kf : ¬ (122 < l0) → SW sc m_X10_isSmall d rc rs 12 [none] [] h P) : SW sc m_X10_isSmall d rc rs 6 [some (.int l0)] [] h P := by
  refine sw_iload_n dX10_isSmall_6 rfl ?_
  refine sw_bipush (v := 122) dX10_isSmall_7 (by decide) ?_
  exact sw_icmp_gt dX10_isSmall_9 (by decide) (fun q => (sw_fg [true] rfl (kt q))) (fun q => (sw_fg [true] rfl (kf q)))
theorem b_X10_isSmall_12  (k : SW sc m_X10_isSmall d rc rs 17 [none] [.int 1] h P) : SW sc m_X10_isSmall d rc rs 12 [none] [] h P := by
  refine sw_iconst (v := 1) dX10_isSmall_12 (by decide) ?_
  exact sw_goto dX10_isSmall_13 (by decide) (k)
theorem b_X10_isSmall_16  (k : SW sc m_X10_isSmall d rc rs 17 [none] [.int 0] h P) : SW sc m_X10_isSmall d rc rs 16 [none] [] h P := by
  refine sw_iconst (v := 0) dX10_isSmall_16 (by decide) ?_
  exact (k)
theorem b_X10_isSmall_17 {s0 : Int32} (hz1 : narrow .boolean (.int s0) = .int s0) (hP : P (.inl (some (.int s0))) h) : SW sc m_X10_isSmall d rc rs 17 [none] [.int s0] h P := by
  exact sw_ret (v := (some (.int s0))) dX10_isSmall_17 (rt_n hz1) hP
theorem b_X10_isDigit_0 {l0 : Int32} (kt : l0 < 48 → SW sc m_X10_isDigit d rc rs 16 [none] [] h P) (kf : ¬ (l0 < 48) → SW sc m_X10_isDigit d rc rs 6 [some (.int l0)] [] h P) : SW sc m_X10_isDigit d rc rs 0 [some (.int l0)] [] h P := by
  refine sw_iload_n dX10_isDigit_0 rfl ?_
  refine sw_bipush (v := 48) dX10_isDigit_1 (by decide) ?_
  exact sw_icmp_lt dX10_isDigit_3 (by decide) (fun q => (sw_fg [true] rfl (kt q))) (fun q => (kf q))
theorem b_X10_isDigit_6 {l0 : Int32} (kt : 57 < l0 → SW sc m_X10_isDigit d rc rs 16 [none] [] h P) (kf : ¬ (57 < l0) → SW sc m_X10_isDigit d rc rs 12 [none] [] h P) : SW sc m_X10_isDigit d rc rs 6 [some (.int l0)] [] h P := by
  refine sw_iload_n dX10_isDigit_6 rfl ?_
  refine sw_bipush (v := 57) dX10_isDigit_7 (by decide) ?_
  exact sw_icmp_gt dX10_isDigit_9 (by decide) (fun q => (sw_fg [true] rfl (kt q))) (fun q => (sw_fg [true] rfl (kf q)))
theorem b_X10_isDigit_12  (k : SW sc m_X10_isDigit d rc rs 17 [none] [.int 1] h P) : SW sc m_X10_isDigit d rc rs 12 [none] [] h P := by
  refine sw_iconst (v := 1) dX10_isDigit_12 (by decide) ?_
  exact sw_goto dX10_isDigit_13 (by decide) (k)
theorem b_X10_isDigit_16  (k : SW sc m_X10_isDigit d rc rs 17 [none] [.int 0] h P) : SW sc m_X10_isDigit d rc rs 16 [none] [] h P := by
  refine sw_iconst (v := 0) dX10_isDigit_16 (by decide) ?_
  exact (k)
theorem b_X10_isDigit_17 {s0 : Int32} (hz1 : narrow .boolean (.int s0) = .int s0) (hP : P (.inl (some (.int s0))) h) : SW sc m_X10_isDigit d rc rs 17 [none] [.int s0] h P := by
  exact sw_ret (v := (some (.int s0))) dX10_isDigit_17 (rt_n hz1) hP
theorem b_X10_go_0 {r0 : Nat} {fs3 : List Value} {x3 : Int32} {v4 : Int32} {g4 : ab_H} {fs4 : List Value} (hc3 : (h)[r0]? = some (10, fs3)) (hv3 : fs3[15]? = some (.int x3)) (hr4 : (h)[r0]? = some (10, fs4)) (hm4 : MSE m_X10_byteAt d [.ref r0, .int x3] h (some (.int v4)) g4) (kt : v4 = 32 → SW sc m_X10_go (d + 1) rc rs 26 [some (.ref r0), none] [] g4 P) (kf : ¬ (v4 = 32) → SW sc m_X10_go (d + 1) rc rs 13 [some (.ref r0), none] [] g4 P) : SW sc m_X10_go (d + 1) rc rs 0 [some (.ref r0), none] [] h P := by
  refine sw_aload_n dX10_go_0 rfl ?_
  refine sw_aload_n dX10_go_1 rfl ?_
  refine sw_getf dX10_go_2 lf_X10_160 hc3 hv3 ?_
  refine sw_cV dX10_go_5 lv_X10_163 hm4 hr4 rfl (by decide) rfl rfl rfl (Nat.le_of_ble_eq_true rfl) (fun _ _ => rfl) rfl ?_
  show SW sc m_X10_go _ _ _ 8 [some (.ref r0), none] [.int v4] g4 P
  refine sw_bipush (v := 32) dX10_go_8 (by decide) ?_
  exact sw_icmp_eq dX10_go_10 (by decide) (fun q => (kt q)) (fun q => (kf q))
theorem b_X10_go_13 {r0 : Nat} {fs3 : List Value} {x3 : Int32} {v4 : Int32} {g4 : ab_H} {fs4 : List Value} (hc3 : (h)[r0]? = some (10, fs3)) (hv3 : fs3[15]? = some (.int x3)) (hr4 : (h)[r0]? = some (10, fs4)) (hm4 : MSE m_X10_byteAt d [.ref r0, .int x3] h (some (.int v4)) g4) (kt : ¬ v4 = 10 → SW sc m_X10_go (d + 1) rc rs 39 [some (.ref r0), none] [] g4 P) (kf : v4 = 10 → SW sc m_X10_go (d + 1) rc rs 26 [some (.ref r0), none] [] g4 P) : SW sc m_X10_go (d + 1) rc rs 13 [some (.ref r0), none] [] h P := by
  refine sw_aload_n dX10_go_13 rfl ?_
  refine sw_aload_n dX10_go_14 rfl ?_
  refine sw_getf dX10_go_15 lf_X10_160 hc3 hv3 ?_
  refine sw_cV dX10_go_18 lv_X10_163 hm4 hr4 rfl (by decide) rfl rfl rfl (Nat.le_of_ble_eq_true rfl) (fun _ _ => rfl) rfl ?_
  show SW sc m_X10_go _ _ _ 21 [some (.ref r0), none] [.int v4] g4 P
  refine sw_bipush (v := 10) dX10_go_21 (by decide) ?_
  exact sw_icmp_ne dX10_go_23 (by decide) (fun q => (kt q)) (fun q => (kf q))
theorem b_X10_go_26 {r0 : Nat} {fs3 : List Value} {x3 : Int32} {fs6 : List Value} (hc3 : (h)[r0]? = some (10, fs3)) (hv3 : fs3[15]? = some (.int x3)) (hc6 : (h)[r0]? = some (10, fs6)) (hk6 : 15 < fs6.length) (k : SW sc m_X10_go d rc rs 0 [some (.ref r0), none] [] ((h).set r0 (10, fs6.set 15 (.int (x3 + 1)))) P) : SW sc m_X10_go d rc rs 26 [some (.ref r0), none] [] h P := by
  refine sw_aload_n dX10_go_26 rfl ?_
  refine sw_dup dX10_go_27 (fun _ _ => rfl) ?_
  refine sw_getf dX10_go_28 lf_X10_160 hc3 hv3 ?_
  refine sw_iconst (v := 1) dX10_go_31 (by decide) ?_
  refine sw_iadd dX10_go_32 ?_
  refine sw_putf dX10_go_33 lp_X10_160 hc6 hk6 (fun _ _ => ⟨rfl, rfl⟩) ?_
  exact sw_goto dX10_go_36 (by decide) (k)
theorem b_X10_go_39 {r0 : Nat} {fs3 : List Value} {x3 : Int32} {fs4 : List Value} {fs7 : List Value} {x7 : Int32} {v8 : Int32} {g8 : ab_H} {fs8 : List Value} (hc3 : (h)[r0]? = some (10, fs3)) (hv3 : fs3[15]? = some (.int x3)) (hc4 : (h)[r0]? = some (10, fs4)) (hk4 : 16 < fs4.length) (hc7 : ((h).set r0 (10, fs4.set 16 (.int x3)))[r0]? = some (10, fs7)) (hv7 : fs7[15]? = some (.int x7)) (hr8 : ((h).set r0 (10, fs4.set 16 (.int x3)))[r0]? = some (10, fs8)) (hm8 : MSE m_X10_byteAt d [.ref r0, .int x7] ((h).set r0 (10, fs4.set 16 (.int x3))) (some (.int v8)) g8) (kt : ¬ v8 = (-1) → SW sc m_X10_go (d + 1) rc rs 69 [some (.ref r0), some (.int v8)] [] g8 P) (kf : v8 = (-1) → SW sc m_X10_go (d + 1) rc rs 61 [some (.ref r0), none] [] g8 P) : SW sc m_X10_go (d + 1) rc rs 39 [some (.ref r0), none] [] h P := by
  refine sw_aload_n dX10_go_39 rfl ?_
  refine sw_aload_n dX10_go_40 rfl ?_
  refine sw_getf dX10_go_41 lf_X10_160 hc3 hv3 ?_
  refine sw_putf dX10_go_44 lp_X10_166 hc4 hk4 (fun _ _ => ⟨rfl, rfl⟩) ?_
  refine sw_aload_n dX10_go_47 rfl ?_
  refine sw_aload_n dX10_go_48 rfl ?_
  refine sw_getf dX10_go_49 lf_X10_160 hc7 hv7 ?_
  refine sw_cV dX10_go_52 lv_X10_163 hm8 hr8 rfl (by decide) rfl rfl rfl (Nat.le_of_ble_eq_true rfl) (fun _ _ => rfl) rfl ?_
  show SW sc m_X10_go _ _ _ 55 [some (.ref r0), none] [.int v8] g8 P
  refine sw_istore_n dX10_go_55 (by decide) rfl ?_
  show SW sc m_X10_go _ _ _ 56 [some (.ref r0), some (.int v8)] [] g8 P
  refine sw_iload_n dX10_go_56 rfl ?_
  refine sw_iconst (v := (-1)) dX10_go_57 (by decide) ?_
  exact sw_icmp_ne dX10_go_58 (by decide) (fun q => (kt q)) (fun q => (sw_fg [false, true] rfl (kf q)))
theorem b_X10_go_61 {r0 : Nat} {fs3 : List Value} (hc3 : (h)[r0]? = some (10, fs3)) (hk3 : 17 < fs3.length) (k : SW sc m_X10_go d rc rs 237 [none, none] [] ((h).set r0 (10, fs3.set 17 (.int 0))) P) : SW sc m_X10_go d rc rs 61 [some (.ref r0), none] [] h P := by
  refine sw_aload_n dX10_go_61 rfl ?_
  refine sw_iconst (v := 0) dX10_go_62 (by decide) ?_
  refine sw_putf dX10_go_63 lp_X10_169 hc3 hk3 (fun _ _ => ⟨rfl, rfl⟩) ?_
  exact sw_goto dX10_go_66 (by decide) (sw_fg [true, false] rfl (k))
theorem b_X10_go_69 {r0 : Nat} {l1 : Int32} {v2 : Int32} {g2 : ab_H} (hm2 : MSE m_X10_isSmall d [.int l1] h (some (.int v2)) g2) (kt : v2 = 0 → SW sc m_X10_go (d + 1) rc rs 111 [some (.ref r0), some (.int l1)] [] g2 P) (kf : ¬ (v2 = 0) → SW sc m_X10_go (d + 1) rc rs 76 [some (.ref r0), none] [] g2 P) : SW sc m_X10_go (d + 1) rc rs 69 [some (.ref r0), some (.int l1)] [] h P := by
  refine sw_iload_n dX10_go_69 rfl ?_
  refine sw_cS dX10_go_70 ls_X10_172 hm2 rfl rfl (Nat.le_of_ble_eq_true rfl) (fun _ _ => rfl) rfl ?_
  show SW sc m_X10_go _ _ _ 73 [some (.ref r0), some (.int l1)] [.int v2] g2 P
  exact sw_if_eq dX10_go_73 (by decide) (fun q => (kt q)) (fun q => (sw_fg [false, true] rfl (kf q)))
theorem b_X10_go_76 {r0 : Nat} {fs3 : List Value} {x3 : Int32} {v4 : Int32} {g4 : ab_H} {fs4 : List Value} {v5 : Int32} {g5 : ab_H} (hc3 : (h)[r0]? = some (10, fs3)) (hv3 : fs3[15]? = some (.int x3)) (hr4 : (h)[r0]? = some (10, fs4)) (hm4 : MSE m_X10_byteAt d [.ref r0, .int x3] h (some (.int v4)) g4) (hm5 : MSE m_X10_isSmall d [.int v4] g4 (some (.int v5)) g5) (kt : v5 = 0 → SW sc m_X10_go (d + 1) rc rs 103 [some (.ref r0), none] [] g5 P) (kf : ¬ (v5 = 0) → SW sc m_X10_go (d + 1) rc rs 90 [some (.ref r0), none] [] g5 P) : SW sc m_X10_go (d + 1) rc rs 76 [some (.ref r0), none] [] h P := by
  refine sw_aload_n dX10_go_76 rfl ?_
  refine sw_aload_n dX10_go_77 rfl ?_
  refine sw_getf dX10_go_78 lf_X10_160 hc3 hv3 ?_
  refine sw_cV dX10_go_81 lv_X10_163 hm4 hr4 rfl (by decide) rfl rfl rfl (Nat.le_of_ble_eq_true rfl) (fun _ _ => rfl) rfl ?_
  show SW sc m_X10_go _ _ _ 84 [some (.ref r0), none] [.int v4] g4 P
  refine sw_cS dX10_go_84 ls_X10_172 hm5 rfl rfl (Nat.le_of_ble_eq_true rfl) (fun _ _ => rfl) rfl ?_
  show SW sc m_X10_go _ _ _ 87 [some (.ref r0), none] [.int v5] g5 P
  exact sw_if_eq dX10_go_87 (by decide) (fun q => (kt q)) (fun q => (kf q))
theorem b_X10_go_90 {r0 : Nat} {fs3 : List Value} {x3 : Int32} {fs6 : List Value} (hc3 : (h)[r0]? = some (10, fs3)) (hv3 : fs3[15]? = some (.int x3)) (hc6 : (h)[r0]? = some (10, fs6)) (hk6 : 15 < fs6.length) (k : SW sc m_X10_go d rc rs 76 [some (.ref r0), none] [] ((h).set r0 (10, fs6.set 15 (.int (x3 + 1)))) P) : SW sc m_X10_go d rc rs 90 [some (.ref r0), none] [] h P := by
  refine sw_aload_n dX10_go_90 rfl ?_
  refine sw_dup dX10_go_91 (fun _ _ => rfl) ?_
  refine sw_getf dX10_go_92 lf_X10_160 hc3 hv3 ?_
  refine sw_iconst (v := 1) dX10_go_95 (by decide) ?_
  refine sw_iadd dX10_go_96 ?_
  refine sw_putf dX10_go_97 lp_X10_160 hc6 hk6 (fun _ _ => ⟨rfl, rfl⟩) ?_
  exact sw_goto dX10_go_100 (by decide) (k)
theorem b_X10_go_103 {r0 : Nat} {fs3 : List Value} (hc3 : (h)[r0]? = some (10, fs3)) (hk3 : 17 < fs3.length) (k : SW sc m_X10_go d rc rs 237 [none, none] [] ((h).set r0 (10, fs3.set 17 (.int 2))) P) : SW sc m_X10_go d rc rs 103 [some (.ref r0), none] [] h P := by
  refine sw_aload_n dX10_go_103 rfl ?_
  refine sw_iconst (v := 2) dX10_go_104 (by decide) ?_
  refine sw_putf dX10_go_105 lp_X10_169 hc3 hk3 (fun _ _ => ⟨rfl, rfl⟩) ?_
  exact sw_goto dX10_go_108 (by decide) (sw_fg [true, false] rfl (k))
theorem b_X10_go_111 {r0 : Nat} {l1 : Int32} {v2 : Int32} {g2 : ab_H} (hm2 : MSE m_X10_isDigit d [.int l1] h (some (.int v2)) g2) (kt : v2 = 0 → SW sc m_X10_go (d + 1) rc rs 212 [some (.ref r0), some (.int l1)] [] g2 P) (kf : ¬ (v2 = 0) → SW sc m_X10_go (d + 1) rc rs 118 [some (.ref r0), none] [] g2 P) : SW sc m_X10_go (d + 1) rc rs 111 [some (.ref r0), some (.int l1)] [] h P := by
  refine sw_iload_n dX10_go_111 rfl ?_
  refine sw_cS dX10_go_112 ls_X10_175 hm2 rfl rfl (Nat.le_of_ble_eq_true rfl) (fun _ _ => rfl) rfl ?_
  show SW sc m_X10_go _ _ _ 115 [some (.ref r0), some (.int l1)] [.int v2] g2 P
  exact sw_if_eq dX10_go_115 (by decide) (fun q => (kt q)) (fun q => (sw_fg [false, true] rfl (kf q)))
theorem b_X10_go_118 {r0 : Nat} {fs3 : List Value} (hc3 : (h)[r0]? = some (10, fs3)) (hk3 : 18 < fs3.length) (k : SW sc m_X10_go d rc rs 123 [some (.ref r0), none] [] ((h).set r0 (10, fs3.set 18 (.int 0))) P) : SW sc m_X10_go d rc rs 118 [some (.ref r0), none] [] h P := by
  refine sw_aload_n dX10_go_118 rfl ?_
  refine sw_iconst (v := 0) dX10_go_119 (by decide) ?_
  refine sw_putf dX10_go_120 lp_X10_178 hc3 hk3 (fun _ _ => ⟨rfl, rfl⟩) ?_
  exact (k)
theorem b_X10_go_123 {r0 : Nat} {fs3 : List Value} {x3 : Int32} {v4 : Int32} {g4 : ab_H} {fs4 : List Value} {v5 : Int32} {g5 : ab_H} (hc3 : (h)[r0]? = some (10, fs3)) (hv3 : fs3[15]? = some (.int x3)) (hr4 : (h)[r0]? = some (10, fs4)) (hm4 : MSE m_X10_byteAt d [.ref r0, .int x3] h (some (.int v4)) g4) (hm5 : MSE m_X10_isDigit d [.int v4] g4 (some (.int v5)) g5) (kt : v5 = 0 → SW sc m_X10_go (d + 1) rc rs 187 [some (.ref r0), none] [] g5 P) (kf : ¬ (v5 = 0) → SW sc m_X10_go (d + 1) rc rs 137 [some (.ref r0), none] [] g5 P) : SW sc m_X10_go (d + 1) rc rs 123 [some (.ref r0), none] [] h P := by
  refine sw_aload_n dX10_go_123 rfl ?_
  refine sw_aload_n dX10_go_124 rfl ?_
  refine sw_getf dX10_go_125 lf_X10_160 hc3 hv3 ?_
  refine sw_cV dX10_go_128 lv_X10_163 hm4 hr4 rfl (by decide) rfl rfl rfl (Nat.le_of_ble_eq_true rfl) (fun _ _ => rfl) rfl ?_
  show SW sc m_X10_go _ _ _ 131 [some (.ref r0), none] [.int v4] g4 P
  refine sw_cS dX10_go_131 ls_X10_175 hm5 rfl rfl (Nat.le_of_ble_eq_true rfl) (fun _ _ => rfl) rfl ?_
  show SW sc m_X10_go _ _ _ 134 [some (.ref r0), none] [.int v5] g5 P
  exact sw_if_eq dX10_go_134 (by decide) (fun q => (kt q)) (fun q => (kf q))
theorem b_X10_go_137 {r0 : Nat} {fs2 : List Value} {x2 : Int32} {fs4 : List Value} {x4 : Int32} (hc2 : (h)[r0]? = some (10, fs2)) (hv2 : fs2[15]? = some (.int x2)) (hc4 : (h)[r0]? = some (10, fs4)) (hv4 : fs4[16]? = some (.int x4)) (kt : 2 ≤ (x2 - x4) → SW sc m_X10_go d rc rs 174 [some (.ref r0), none] [] h P) (kf : ¬ (2 ≤ (x2 - x4)) → SW sc m_X10_go d rc rs 150 [some (.ref r0), none] [] h P) : SW sc m_X10_go d rc rs 137 [some (.ref r0), none] [] h P := by
  refine sw_aload_n dX10_go_137 rfl ?_
  refine sw_getf dX10_go_138 lf_X10_160 hc2 hv2 ?_
  refine sw_aload_n dX10_go_141 rfl ?_
  refine sw_getf dX10_go_142 lf_X10_166 hc4 hv4 ?_
  refine sw_isub dX10_go_145 ?_
  refine sw_iconst (v := 2) dX10_go_146 (by decide) ?_
  exact sw_icmp_ge dX10_go_147 (by decide) (fun q => (kt q)) (fun q => (kf q))
theorem b_X10_go_150 {r0 : Nat} {fs4 : List Value} {x4 : Int32} {fs7 : List Value} {a7 : Nat} {fs9 : List Value} {x9 : Int32} {vs10 : List Value} {x10 : Int32} {fs14 : List Value} (hc4 : (h)[r0]? = some (10, fs4)) (hv4 : fs4[18]? = some (.int x4)) (hc7 : (h)[r0]? = some (10, fs7)) (hv7 : fs7[12]? = some (.ref a7)) (hc9 : (h)[r0]? = some (10, fs9)) (hv9 : fs9[15]? = some (.int x9)) (hc10 : (h)[a7]? = some (100, vs10)) (ho10 : ¬ x9 < 0) (hi10 : vs10[x9.toNatClampNeg]? = some (.int x10)) (hc14 : (h)[r0]? = some (10, fs14)) (hk14 : 18 < fs14.length) (k : SW sc m_X10_go d rc rs 174 [some (.ref r0), none] [] ((h).set r0 (10, fs14.set 18 (.int (((10 * x4) + x10) - 48)))) P) : SW sc m_X10_go d rc rs 150 [some (.ref r0), none] [] h P := by
  refine sw_aload_n dX10_go_150 rfl ?_
  refine sw_bipush (v := 10) dX10_go_151 (by decide) ?_
  refine sw_aload_n dX10_go_153 rfl ?_
  refine sw_getf dX10_go_154 lf_X10_178 hc4 hv4 ?_
  refine sw_imul dX10_go_157 ?_
  refine sw_aload_n dX10_go_158 rfl ?_
  refine sw_getf dX10_go_159 lf_X10_41 hc7 hv7 ?_
  refine sw_aload_n dX10_go_162 rfl ?_
  refine sw_getf dX10_go_163 lf_X10_160 hc9 hv9 ?_
  refine sw_iald dX10_go_166 hc10 ho10 hi10 ?_
  refine sw_iadd dX10_go_167 ?_
  refine sw_bipush (v := 48) dX10_go_168 (by decide) ?_
  refine sw_isub dX10_go_170 ?_
  refine sw_putf dX10_go_171 lp_X10_178 hc14 hk14 (fun _ _ => ⟨rfl, rfl⟩) ?_
  exact (k)
theorem b_X10_go_174 {r0 : Nat} {fs3 : List Value} {x3 : Int32} {fs6 : List Value} (hc3 : (h)[r0]? = some (10, fs3)) (hv3 : fs3[15]? = some (.int x3)) (hc6 : (h)[r0]? = some (10, fs6)) (hk6 : 15 < fs6.length) (k : SW sc m_X10_go d rc rs 123 [some (.ref r0), none] [] ((h).set r0 (10, fs6.set 15 (.int (x3 + 1)))) P) : SW sc m_X10_go d rc rs 174 [some (.ref r0), none] [] h P := by
  refine sw_aload_n dX10_go_174 rfl ?_
  refine sw_dup dX10_go_175 (fun _ _ => rfl) ?_
  refine sw_getf dX10_go_176 lf_X10_160 hc3 hv3 ?_
  refine sw_iconst (v := 1) dX10_go_179 (by decide) ?_
  refine sw_iadd dX10_go_180 ?_
  refine sw_putf dX10_go_181 lp_X10_160 hc6 hk6 (fun _ _ => ⟨rfl, rfl⟩) ?_
  exact sw_goto dX10_go_184 (by decide) (k)
theorem b_X10_go_187 {r0 : Nat} {fs3 : List Value} {x3 : Int32} {fs5 : List Value} {x5 : Int32} (hc3 : (h)[r0]? = some (10, fs3)) (hv3 : fs3[15]? = some (.int x3)) (hc5 : (h)[r0]? = some (10, fs5)) (hv5 : fs5[16]? = some (.int x5)) (kt : (x3 - x5) ≤ 2 → SW sc m_X10_go d rc rs 205 [none, none] [.ref r0] h P) (kf : ¬ ((x3 - x5) ≤ 2) → SW sc m_X10_go d rc rs 201 [none, none] [.ref r0] h P) : SW sc m_X10_go d rc rs 187 [some (.ref r0), none] [] h P := by
  refine sw_aload_n dX10_go_187 rfl ?_
  refine sw_aload_n dX10_go_188 rfl ?_
  refine sw_getf dX10_go_189 lf_X10_160 hc3 hv3 ?_
  refine sw_aload_n dX10_go_192 rfl ?_
  refine sw_getf dX10_go_193 lf_X10_166 hc5 hv5 ?_
  refine sw_isub dX10_go_196 ?_
  refine sw_iconst (v := 2) dX10_go_197 (by decide) ?_
  exact sw_icmp_le dX10_go_198 (by decide) (fun q => (sw_fg [true, false] rfl (kt q))) (fun q => (sw_fg [true, false] rfl (kf q)))
theorem b_X10_go_201 {q0 : Nat} (k : SW sc m_X10_go d rc rs 206 [none, none] [.int 1, .ref q0] h P) : SW sc m_X10_go d rc rs 201 [none, none] [.ref q0] h P := by
  refine sw_iconst (v := 1) dX10_go_201 (by decide) ?_
  exact sw_goto dX10_go_202 (by decide) (k)
theorem b_X10_go_205 {q0 : Nat} (k : SW sc m_X10_go d rc rs 206 [none, none] [.int 3, .ref q0] h P) : SW sc m_X10_go d rc rs 205 [none, none] [.ref q0] h P := by
  refine sw_iconst (v := 3) dX10_go_205 (by decide) ?_
  exact (k)
theorem b_X10_go_206 {q0 : Nat} {s1 : Int32} {fs1 : List Value} (hc1 : (h)[q0]? = some (10, fs1)) (hk1 : 17 < fs1.length) (k : SW sc m_X10_go d rc rs 237 [none, none] [] ((h).set q0 (10, fs1.set 17 (.int s1))) P) : SW sc m_X10_go d rc rs 206 [none, none] [.int s1, .ref q0] h P := by
  refine sw_putf dX10_go_206 lp_X10_169 hc1 hk1 (fun _ _ => ⟨rfl, rfl⟩) ?_
  exact sw_goto dX10_go_209 (by decide) (k)
theorem b_X10_go_212 {r0 : Nat} {l1 : Int32} {fs3 : List Value} {x3 : Int32} {fs6 : List Value} (hc3 : (h)[r0]? = some (10, fs3)) (hv3 : fs3[15]? = some (.int x3)) (hc6 : (h)[r0]? = some (10, fs6)) (hk6 : 15 < fs6.length) (kt : ¬ l1 = 59 → SW sc m_X10_go d rc rs 233 [none, none] [.ref r0] ((h).set r0 (10, fs6.set 15 (.int (x3 + 1)))) P) (kf : l1 = 59 → SW sc m_X10_go d rc rs 229 [none, none] [.ref r0] ((h).set r0 (10, fs6.set 15 (.int (x3 + 1)))) P) : SW sc m_X10_go d rc rs 212 [some (.ref r0), some (.int l1)] [] h P := by
  refine sw_aload_n dX10_go_212 rfl ?_
  refine sw_dup dX10_go_213 (fun _ _ => rfl) ?_
  refine sw_getf dX10_go_214 lf_X10_160 hc3 hv3 ?_
  refine sw_iconst (v := 1) dX10_go_217 (by decide) ?_
  refine sw_iadd dX10_go_218 ?_
  refine sw_putf dX10_go_219 lp_X10_160 hc6 hk6 (fun _ _ => ⟨rfl, rfl⟩) ?_
  refine sw_aload_n dX10_go_222 rfl ?_
  refine sw_iload_n dX10_go_223 rfl ?_
  refine sw_bipush (v := 59) dX10_go_224 (by decide) ?_
  exact sw_icmp_ne dX10_go_226 (by decide) (fun q => (sw_fg [true, true] rfl (kt q))) (fun q => (sw_fg [true, true] rfl (kf q)))
theorem b_X10_go_229 {q0 : Nat} (k : SW sc m_X10_go d rc rs 234 [none, none] [.int 4, .ref q0] h P) : SW sc m_X10_go d rc rs 229 [none, none] [.ref q0] h P := by
  refine sw_iconst (v := 4) dX10_go_229 (by decide) ?_
  exact sw_goto dX10_go_230 (by decide) (k)
theorem b_X10_go_233 {q0 : Nat} (k : SW sc m_X10_go d rc rs 234 [none, none] [.int 1, .ref q0] h P) : SW sc m_X10_go d rc rs 233 [none, none] [.ref q0] h P := by
  refine sw_iconst (v := 1) dX10_go_233 (by decide) ?_
  exact (k)
theorem b_X10_go_234 {q0 : Nat} {s1 : Int32} {fs1 : List Value} (hc1 : (h)[q0]? = some (10, fs1)) (hk1 : 17 < fs1.length) (k : SW sc m_X10_go d rc rs 237 [none, none] [] ((h).set q0 (10, fs1.set 17 (.int s1))) P) : SW sc m_X10_go d rc rs 234 [none, none] [.int s1, .ref q0] h P := by
  refine sw_putf dX10_go_234 lp_X10_169 hc1 hk1 (fun _ _ => ⟨rfl, rfl⟩) ?_
  exact (k)
theorem b_X10_go_237  (hP : P (.inl none) h) : SW sc m_X10_go d rc rs 237 [none, none] [] h P := by
  exact sw_ret (v := none) dX10_go_237 rt_v hP
theorem b_X10_isWord_0 {r0 : Nat} {t1 : Nat} {fs2 : List Value} {x2 : Int32} (hc2 : (h)[r0]? = some (10, fs2)) (hv2 : fs2[17]? = some (.int x2)) (kt : ¬ x2 = 2 → SW sc m_X10_isWord d rc rs 24 [none, none, none] [] h P) (kf : x2 = 2 → SW sc m_X10_isWord d rc rs 8 [some (.ref r0), some (.retAddr t1), none] [] h P) : SW sc m_X10_isWord d rc rs 0 [some (.ref r0), some (.retAddr t1), none] [] h P := by
  refine sw_aload_n dX10_isWord_0 rfl ?_
  refine sw_getf dX10_isWord_1 lf_X10_169 hc2 hv2 ?_
  refine sw_iconst (v := 2) dX10_isWord_4 (by decide) ?_
  exact sw_icmp_ne dX10_isWord_5 (by decide) (fun q => (sw_fg [true, true, false] rfl (kt q))) (fun q => (kf q))
theorem b_X10_isWord_8 {r0 : Nat} {t1 : Nat} {fs2 : List Value} {x2 : Int32} {fs4 : List Value} {x4 : Int32} {v7 : Int32} {g7 : ab_H} (hc2 : (h)[r0]? = some (10, fs2)) (hv2 : fs2[15]? = some (.int x2)) (hc4 : (h)[r0]? = some (10, fs4)) (hv4 : fs4[16]? = some (.int x4)) (ht6 : t1 < 6) (ht7 : t1 < 6) (hm7 : MSE m_J0_length_8abf5 d [.retAddr t1] h (some (.int v7)) g7) (kt : (x2 - x4) = v7 → SW sc m_X10_isWord (d + 1) rc rs 26 [some (.ref r0), some (.retAddr t1), none] [] g7 P) (kf : ¬ ((x2 - x4) = v7) → SW sc m_X10_isWord (d + 1) rc rs 24 [none, none, none] [] g7 P) : SW sc m_X10_isWord (d + 1) rc rs 8 [some (.ref r0), some (.retAddr t1), none] [] h P := by
  refine sw_aload_n dX10_isWord_8 rfl ?_
  refine sw_getf dX10_isWord_9 lf_X10_160 hc2 hv2 ?_
  refine sw_aload_n dX10_isWord_12 rfl ?_
  refine sw_getf dX10_isWord_13 lf_X10_166 hc4 hv4 ?_
  refine sw_isub dX10_isWord_16 ?_
  refine sw_aload_nt dX10_isWord_17 rfl (Or.inl ht6) ?_
  refine sw_cT dX10_isWord_18 lv_X10_181 rfl ht7 hm7 rfl rfl (Nat.le_of_ble_eq_true rfl) (fun _ _ => rfl) (fun σ τ v hv => by simp at hv) ?_
  show SW sc m_X10_isWord _ _ _ 21 [some (.ref r0), some (.retAddr t1), none] [.int v7, .int (x2 - x4)] g7 P
  exact sw_icmp_eq dX10_isWord_21 (by decide) (fun q => (kt q)) (fun q => (sw_fg [true, true, false] rfl (kf q)))
theorem b_X10_isWord_24  (hP : P (.inl (some (.int 0))) h) : SW sc m_X10_isWord d rc rs 24 [none, none, none] [] h P := by
  refine sw_iconst (v := 0) dX10_isWord_24 (by decide) ?_
  exact sw_ret (v := (some (.int 0))) dX10_isWord_25 (rt_n (by decide)) hP
theorem b_X10_isWord_26 {r0 : Nat} {t1 : Nat} (k : SW sc m_X10_isWord d rc rs 28 [some (.ref r0), some (.retAddr t1), some (.int 0)] [] h P) : SW sc m_X10_isWord d rc rs 26 [some (.ref r0), some (.retAddr t1), none] [] h P := by
  refine sw_iconst (v := 0) dX10_isWord_26 (by decide) ?_
  refine sw_istore_n dX10_isWord_27 (by decide) rfl ?_
  show SW sc m_X10_isWord _ _ _ 28 [some (.ref r0), some (.retAddr t1), some (.int 0)] [] h P
  exact (k)
theorem b_X10_isWord_28 {r0 : Nat} {t1 : Nat} {l2 : Int32} {v3 : Int32} {g3 : ab_H} (ht2 : t1 < 6) (ht3 : t1 < 6) (hm3 : MSE m_J0_length_8abf5 d [.retAddr t1] h (some (.int v3)) g3) (kt : v3 ≤ l2 → SW sc m_X10_isWord (d + 1) rc rs 63 [none, none, none] [] g3 P) (kf : ¬ (v3 ≤ l2) → SW sc m_X10_isWord (d + 1) rc rs 36 [some (.ref r0), some (.retAddr t1), some (.int l2)] [] g3 P) : SW sc m_X10_isWord (d + 1) rc rs 28 [some (.ref r0), some (.retAddr t1), some (.int l2)] [] h P := by
  refine sw_iload_n dX10_isWord_28 rfl ?_
  refine sw_aload_nt dX10_isWord_29 rfl (Or.inl ht2) ?_
  refine sw_cT dX10_isWord_30 lv_X10_181 rfl ht3 hm3 rfl rfl (Nat.le_of_ble_eq_true rfl) (fun _ _ => rfl) (fun σ τ v hv => by simp at hv) ?_
  show SW sc m_X10_isWord _ _ _ 33 [some (.ref r0), some (.retAddr t1), some (.int l2)] [.int v3, .int l2] g3 P
  exact sw_icmp_ge dX10_isWord_33 (by decide) (fun q => (sw_fg [true, true, true] rfl (kt q))) (fun q => (kf q))
theorem b_X10_isWord_36 {r0 : Nat} {t1 : Nat} {l2 : Int32} {fs2 : List Value} {a2 : Nat} {fs4 : List Value} {x4 : Int32} {vs7 : List Value} {x7 : Int32} {v10 : Int32} {g10 : ab_H} (hc2 : (h)[r0]? = some (10, fs2)) (hv2 : fs2[12]? = some (.ref a2)) (hc4 : (h)[r0]? = some (10, fs4)) (hv4 : fs4[16]? = some (.int x4)) (hc7 : (h)[a2]? = some (100, vs7)) (ho7 : ¬ (x4 + l2) < 0) (hi7 : vs7[(x4 + l2).toNatClampNeg]? = some (.int x7)) (ht8 : t1 < 6) (ht10 : t1 < 6) (hm10 : MSE m_J0_charAt_5068e d [.retAddr t1, .int l2] h (some (.int v10)) g10) (kt : x7 = v10 → SW sc m_X10_isWord (d + 1) rc rs 57 [some (.ref r0), some (.retAddr t1), some (.int l2)] [] g10 P) (kf : ¬ (x7 = v10) → SW sc m_X10_isWord (d + 1) rc rs 55 [none, none, none] [] g10 P) : SW sc m_X10_isWord (d + 1) rc rs 36 [some (.ref r0), some (.retAddr t1), some (.int l2)] [] h P := by
  refine sw_aload_n dX10_isWord_36 rfl ?_
  refine sw_getf dX10_isWord_37 lf_X10_41 hc2 hv2 ?_
  refine sw_aload_n dX10_isWord_40 rfl ?_
  refine sw_getf dX10_isWord_41 lf_X10_166 hc4 hv4 ?_
  refine sw_iload_n dX10_isWord_44 rfl ?_
  refine sw_iadd dX10_isWord_45 ?_
  refine sw_iald dX10_isWord_46 hc7 ho7 hi7 ?_
  refine sw_aload_nt dX10_isWord_47 rfl (Or.inl ht8) ?_
  refine sw_iload_n dX10_isWord_48 rfl ?_
  refine sw_cT dX10_isWord_49 lv_X10_186 rfl ht10 hm10 rfl rfl (Nat.le_of_ble_eq_true rfl) (fun _ _ => rfl) (fun σ τ v hv => by rw [List.mem_singleton.mp hv]; rfl) ?_
  show SW sc m_X10_isWord _ _ _ 52 [some (.ref r0), some (.retAddr t1), some (.int l2)] [.int v10, .int x7] g10 P
  exact sw_icmp_eq dX10_isWord_52 (by decide) (fun q => (kt q)) (fun q => (sw_fg [true, true, true] rfl (kf q)))
theorem b_X10_isWord_55  (hP : P (.inl (some (.int 0))) h) : SW sc m_X10_isWord d rc rs 55 [none, none, none] [] h P := by
  refine sw_iconst (v := 0) dX10_isWord_55 (by decide) ?_
  exact sw_ret (v := (some (.int 0))) dX10_isWord_56 (rt_n (by decide)) hP
theorem b_X10_isWord_57 {r0 : Nat} {t1 : Nat} {l2 : Int32} (k : SW sc m_X10_isWord d rc rs 28 [some (.ref r0), some (.retAddr t1), some (.int (l2 + 1))] [] h P) : SW sc m_X10_isWord d rc rs 57 [some (.ref r0), some (.retAddr t1), some (.int l2)] [] h P := by
  refine sw_iinc (v := l2 + 1) dX10_isWord_57 rfl rfl (by decide) rfl ?_
  show SW sc m_X10_isWord _ _ _ 60 [some (.ref r0), some (.retAddr t1), some (.int (l2 + 1))] [] h P
  exact sw_goto dX10_isWord_60 (by decide) (k)
theorem b_X10_isWord_63  (hP : P (.inl (some (.int 1))) h) : SW sc m_X10_isWord d rc rs 63 [none, none, none] [] h P := by
  refine sw_iconst (v := 1) dX10_isWord_63 (by decide) ?_
  exact sw_ret (v := (some (.int 1))) dX10_isWord_64 (rt_n (by decide)) hP
theorem b_X10_bad_0 {r0 : Nat} {l1 : Int32} {fs3 : List Value} {fs6 : List Value} {x6 : Int32} {fs7 : List Value} (hc3 : (h)[r0]? = some (10, fs3)) (hk3 : 19 < fs3.length) (hc6 : ((h).set r0 (10, fs3.set 19 (.int l1)))[r0]? = some (10, fs6)) (hv6 : fs6[16]? = some (.int x6)) (hc7 : ((h).set r0 (10, fs3.set 19 (.int l1)))[r0]? = some (10, fs7)) (hk7 : 20 < fs7.length) (hP : P (.inl (some (.int 0))) (((h).set r0 (10, fs3.set 19 (.int l1))).set r0 (10, fs7.set 20 (.int x6)))) : SW sc m_X10_bad d rc rs 0 [some (.ref r0), some (.int l1)] [] h P := by
  refine sw_aload_n dX10_bad_0 rfl ?_
  refine sw_iload_n dX10_bad_1 rfl ?_
  refine sw_putf dX10_bad_2 lp_X10_190 hc3 hk3 (fun _ _ => ⟨rfl, rfl⟩) ?_
  refine sw_aload_n dX10_bad_5 rfl ?_
  refine sw_aload_n dX10_bad_6 rfl ?_
  refine sw_getf dX10_bad_7 lf_X10_166 hc6 hv6 ?_
  refine sw_putf dX10_bad_10 lp_X10_193 hc7 hk7 (fun _ _ => ⟨rfl, rfl⟩) ?_
  refine sw_iconst (v := 0) dX10_bad_13 (by decide) ?_
  exact sw_ret (v := (some (.int 0))) dX10_bad_14 (rt_n (by decide)) hP
theorem b_X10_reads_0 {r0 : Nat} {l1 : Int32} {l2 : Int32} {fs2 : List Value} {x2 : Int32} (hc2 : (h)[r0]? = some (10, fs2)) (hv2 : fs2[17]? = some (.int x2)) (kt : x2 = 3 → SW sc m_X10_reads d rc rs 14 [some (.ref r0), some (.int l1), some (.int l2)] [] h P) (kf : ¬ (x2 = 3) → SW sc m_X10_reads d rc rs 8 [some (.ref r0), none, none] [] h P) : SW sc m_X10_reads d rc rs 0 [some (.ref r0), some (.int l1), some (.int l2)] [] h P := by
  refine sw_aload_n dX10_reads_0 rfl ?_
  refine sw_getf dX10_reads_1 lf_X10_169 hc2 hv2 ?_
  refine sw_iconst (v := 3) dX10_reads_4 (by decide) ?_
  exact sw_icmp_eq dX10_reads_5 (by decide) (fun q => (kt q)) (fun q => (sw_fg [false, true, true] rfl (kf q)))
theorem b_X10_reads_8 {r0 : Nat} {v3 : Int32} {g3 : ab_H} {fs3 : List Value} (hr3 : (h)[r0]? = some (10, fs3)) (hm3 : MSE m_X10_bad d [.ref r0, .int 1] h (some (.int v3)) g3) (hz4 : narrow .boolean (.int v3) = .int v3) (hP : P (.inl (some (.int v3))) g3) : SW sc m_X10_reads (d + 1) rc rs 8 [some (.ref r0), none, none] [] h P := by
  refine sw_aload_n dX10_reads_8 rfl ?_
  refine sw_iconst (v := 1) dX10_reads_9 (by decide) ?_
  refine sw_cV dX10_reads_10 lv_X10_196 hm3 hr3 rfl (by decide) rfl rfl rfl (Nat.le_of_ble_eq_true rfl) (fun _ _ => rfl) rfl ?_
  show SW sc m_X10_reads _ _ _ 13 [some (.ref r0), none, none] [.int v3] g3 P
  exact sw_ret (v := (some (.int v3))) dX10_reads_13 (rt_n hz4) hP
theorem b_X10_reads_14 {r0 : Nat} {l1 : Int32} {l2 : Int32} {fs2 : List Value} {x2 : Int32} {v5 : Int32} {g5 : ab_H} (hc2 : (h)[r0]? = some (10, fs2)) (hv2 : fs2[18]? = some (.int x2)) (hm5 : MSE m_X10_isIn d [.int x2, .int l1, .int l2] h (some (.int v5)) g5) (kt : ¬ v5 = 0 → SW sc m_X10_reads (d + 1) rc rs 32 [some (.ref r0), none, none] [] g5 P) (kf : v5 = 0 → SW sc m_X10_reads (d + 1) rc rs 26 [some (.ref r0), none, none] [] g5 P) : SW sc m_X10_reads (d + 1) rc rs 14 [some (.ref r0), some (.int l1), some (.int l2)] [] h P := by
  refine sw_aload_n dX10_reads_14 rfl ?_
  refine sw_getf dX10_reads_15 lf_X10_178 hc2 hv2 ?_
  refine sw_iload_n dX10_reads_18 rfl ?_
  refine sw_iload_n dX10_reads_19 rfl ?_
  refine sw_cS dX10_reads_20 ls_X10_153 hm5 rfl rfl (Nat.le_of_ble_eq_true rfl) (fun _ _ => rfl) rfl ?_
  show SW sc m_X10_reads _ _ _ 23 [some (.ref r0), some (.int l1), some (.int l2)] [.int v5] g5 P
  exact sw_if_ne dX10_reads_23 (by decide) (fun q => (sw_fg [false, true, true] rfl (kt q))) (fun q => (sw_fg [false, true, true] rfl (kf q)))
theorem b_X10_reads_26 {r0 : Nat} {v3 : Int32} {g3 : ab_H} {fs3 : List Value} (hr3 : (h)[r0]? = some (10, fs3)) (hm3 : MSE m_X10_bad d [.ref r0, .int 2] h (some (.int v3)) g3) (hz4 : narrow .boolean (.int v3) = .int v3) (hP : P (.inl (some (.int v3))) g3) : SW sc m_X10_reads (d + 1) rc rs 26 [some (.ref r0), none, none] [] h P := by
  refine sw_aload_n dX10_reads_26 rfl ?_
  refine sw_iconst (v := 2) dX10_reads_27 (by decide) ?_
  refine sw_cV dX10_reads_28 lv_X10_196 hm3 hr3 rfl (by decide) rfl rfl rfl (Nat.le_of_ble_eq_true rfl) (fun _ _ => rfl) rfl ?_
  show SW sc m_X10_reads _ _ _ 31 [some (.ref r0), none, none] [.int v3] g3 P
  exact sw_ret (v := (some (.int v3))) dX10_reads_31 (rt_n hz4) hP
theorem b_X10_reads_32 {r0 : Nat} {fs3 : List Value} {x3 : Int32} {fs4 : List Value} {g6 : ab_H} {fs6 : List Value} (hc3 : (h)[r0]? = some (10, fs3)) (hv3 : fs3[18]? = some (.int x3)) (hc4 : (h)[r0]? = some (10, fs4)) (hk4 : 21 < fs4.length) (hr6 : ((h).set r0 (10, fs4.set 21 (.int x3)))[r0]? = some (10, fs6)) (hm6 : MSE m_X10_go d [.ref r0] ((h).set r0 (10, fs4.set 21 (.int x3))) none g6) (hP : P (.inl (some (.int 1))) g6) : SW sc m_X10_reads (d + 1) rc rs 32 [some (.ref r0), none, none] [] h P := by
  refine sw_aload_n dX10_reads_32 rfl ?_
  refine sw_aload_n dX10_reads_33 rfl ?_
  refine sw_getf dX10_reads_34 lf_X10_178 hc3 hv3 ?_
  refine sw_putf dX10_reads_37 lp_X10_199 hc4 hk4 (fun _ _ => ⟨rfl, rfl⟩) ?_
  refine sw_aload_n dX10_reads_40 rfl ?_
  refine sw_cV dX10_reads_41 lv_X10_202 hm6 hr6 rfl (by decide) rfl rfl rfl (Nat.le_of_ble_eq_true rfl) (fun _ _ => rfl) rfl ?_
  show SW sc m_X10_reads _ _ _ 44 [some (.ref r0), none, none] [] g6 P
  refine sw_iconst (v := 1) dX10_reads_44 (by decide) ?_
  exact sw_ret (v := (some (.int 1))) dX10_reads_45 (rt_n (by decide)) hP
theorem b_X10_readsEnd_0 {r0 : Nat} {l1 : Int32} {fs2 : List Value} {x2 : Int32} (hc2 : (h)[r0]? = some (10, fs2)) (hv2 : fs2[17]? = some (.int x2)) (kt : x2 = 3 → SW sc m_X10_readsEnd d rc rs 14 [some (.ref r0), some (.int l1)] [] h P) (kf : ¬ (x2 = 3) → SW sc m_X10_readsEnd d rc rs 8 [some (.ref r0), none] [] h P) : SW sc m_X10_readsEnd d rc rs 0 [some (.ref r0), some (.int l1)] [] h P := by
  refine sw_aload_n dX10_readsEnd_0 rfl ?_
  refine sw_getf dX10_readsEnd_1 lf_X10_169 hc2 hv2 ?_
  refine sw_iconst (v := 3) dX10_readsEnd_4 (by decide) ?_
  exact sw_icmp_eq dX10_readsEnd_5 (by decide) (fun q => (kt q)) (fun q => (sw_fg [false, true] rfl (kf q)))
theorem b_X10_readsEnd_8 {r0 : Nat} {v3 : Int32} {g3 : ab_H} {fs3 : List Value} (hr3 : (h)[r0]? = some (10, fs3)) (hm3 : MSE m_X10_bad d [.ref r0, .int 1] h (some (.int v3)) g3) (hz4 : narrow .boolean (.int v3) = .int v3) (hP : P (.inl (some (.int v3))) g3) : SW sc m_X10_readsEnd (d + 1) rc rs 8 [some (.ref r0), none] [] h P := by
  refine sw_aload_n dX10_readsEnd_8 rfl ?_
  refine sw_iconst (v := 1) dX10_readsEnd_9 (by decide) ?_
  refine sw_cV dX10_readsEnd_10 lv_X10_196 hm3 hr3 rfl (by decide) rfl rfl rfl (Nat.le_of_ble_eq_true rfl) (fun _ _ => rfl) rfl ?_
  show SW sc m_X10_readsEnd _ _ _ 13 [some (.ref r0), none] [.int v3] g3 P
  exact sw_ret (v := (some (.int v3))) dX10_readsEnd_13 (rt_n hz4) hP
theorem b_X10_readsEnd_14 {r0 : Nat} {l1 : Int32} {fs2 : List Value} {x2 : Int32} {fs4 : List Value} {x4 : Int32} (hc2 : (h)[r0]? = some (10, fs2)) (hv2 : fs2[18]? = some (.int x2)) (hc4 : (h)[r0]? = some (10, fs4)) (hv4 : fs4[10]? = some (.int x4)) (kt : x2 < x4 → SW sc m_X10_readsEnd d rc rs 31 [some (.ref r0), some (.int l1)] [] h P) (kf : ¬ (x2 < x4) → SW sc m_X10_readsEnd d rc rs 25 [some (.ref r0), none] [] h P) : SW sc m_X10_readsEnd d rc rs 14 [some (.ref r0), some (.int l1)] [] h P := by
  refine sw_aload_n dX10_readsEnd_14 rfl ?_
  refine sw_getf dX10_readsEnd_15 lf_X10_178 hc2 hv2 ?_
  refine sw_aload_n dX10_readsEnd_18 rfl ?_
  refine sw_getf dX10_readsEnd_19 lf_X10_60 hc4 hv4 ?_
  exact sw_icmp_lt dX10_readsEnd_22 (by decide) (fun q => (kt q)) (fun q => (sw_fg [false, true] rfl (kf q)))
theorem b_X10_readsEnd_25 {r0 : Nat} {v3 : Int32} {g3 : ab_H} {fs3 : List Value} (hr3 : (h)[r0]? = some (10, fs3)) (hm3 : MSE m_X10_bad d [.ref r0, .int 2] h (some (.int v3)) g3) (hz4 : narrow .boolean (.int v3) = .int v3) (hP : P (.inl (some (.int v3))) g3) : SW sc m_X10_readsEnd (d + 1) rc rs 25 [some (.ref r0), none] [] h P := by
  refine sw_aload_n dX10_readsEnd_25 rfl ?_
  refine sw_iconst (v := 2) dX10_readsEnd_26 (by decide) ?_
  refine sw_cV dX10_readsEnd_27 lv_X10_196 hm3 hr3 rfl (by decide) rfl rfl rfl (Nat.le_of_ble_eq_true rfl) (fun _ _ => rfl) rfl ?_
  show SW sc m_X10_readsEnd _ _ _ 30 [some (.ref r0), none] [.int v3] g3 P
  exact sw_ret (v := (some (.int v3))) dX10_readsEnd_30 (rt_n hz4) hP
theorem b_X10_readsEnd_31 {r0 : Nat} {l1 : Int32} {v3 : Int32} {g3 : ab_H} {fs3 : List Value} {fs5 : List Value} {x5 : Int32} {v6 : Int32} {g6 : ab_H} (hr3 : (h)[r0]? = some (10, fs3)) (hm3 : MSE m_X10_component d [.ref r0, .int l1] h (some (.int v3)) g3) (hc5 : (g3)[r0]? = some (10, fs5)) (hv5 : fs5[18]? = some (.int x5)) (hm6 : MSE m_X10_has d [.int v3, .int x5] g3 (some (.int v6)) g6) (kt : v6 = 0 → SW sc m_X10_readsEnd (d + 1) rc rs 52 [some (.ref r0), some (.int l1)] [] g6 P) (kf : ¬ (v6 = 0) → SW sc m_X10_readsEnd (d + 1) rc rs 46 [some (.ref r0), none] [] g6 P) : SW sc m_X10_readsEnd (d + 1) rc rs 31 [some (.ref r0), some (.int l1)] [] h P := by
  refine sw_aload_n dX10_readsEnd_31 rfl ?_
  refine sw_iload_n dX10_readsEnd_32 rfl ?_
  refine sw_cV dX10_readsEnd_33 lv_X10_84 hm3 hr3 rfl (by decide) rfl rfl rfl (Nat.le_of_ble_eq_true rfl) (fun _ _ => rfl) rfl ?_
  show SW sc m_X10_readsEnd _ _ _ 36 [some (.ref r0), some (.int l1)] [.int v3] g3 P
  refine sw_aload_n dX10_readsEnd_36 rfl ?_
  refine sw_getf dX10_readsEnd_37 lf_X10_178 hc5 hv5 ?_
  refine sw_cS dX10_readsEnd_40 ls_X10_70 hm6 rfl rfl (Nat.le_of_ble_eq_true rfl) (fun _ _ => rfl) rfl ?_
  show SW sc m_X10_readsEnd _ _ _ 43 [some (.ref r0), some (.int l1)] [.int v6] g6 P
  exact sw_if_eq dX10_readsEnd_43 (by decide) (fun q => (kt q)) (fun q => (sw_fg [false, true] rfl (kf q)))
theorem b_X10_readsEnd_46 {r0 : Nat} {v3 : Int32} {g3 : ab_H} {fs3 : List Value} (hr3 : (h)[r0]? = some (10, fs3)) (hm3 : MSE m_X10_bad d [.ref r0, .int 3] h (some (.int v3)) g3) (hz4 : narrow .boolean (.int v3) = .int v3) (hP : P (.inl (some (.int v3))) g3) : SW sc m_X10_readsEnd (d + 1) rc rs 46 [some (.ref r0), none] [] h P := by
  refine sw_aload_n dX10_readsEnd_46 rfl ?_
  refine sw_iconst (v := 3) dX10_readsEnd_47 (by decide) ?_
  refine sw_cV dX10_readsEnd_48 lv_X10_196 hm3 hr3 rfl (by decide) rfl rfl rfl (Nat.le_of_ble_eq_true rfl) (fun _ _ => rfl) rfl ?_
  show SW sc m_X10_readsEnd _ _ _ 51 [some (.ref r0), none] [.int v3] g3 P
  exact sw_ret (v := (some (.int v3))) dX10_readsEnd_51 (rt_n hz4) hP
theorem b_X10_readsEnd_52 {r0 : Nat} {l1 : Int32} {fs2 : List Value} {a2 : Nat} {fs5 : List Value} {x5 : Int32} {g6 : ab_H} {fs9 : List Value} {x9 : Int32} {fs10 : List Value} {g12 : ab_H} {fs12 : List Value} (hc2 : (h)[r0]? = some (10, fs2)) (hv2 : fs2[2]? = some (.ref a2)) (hc5 : (h)[r0]? = some (10, fs5)) (hv5 : fs5[18]? = some (.int x5)) (hm6 : MSE m_X10_joins d [.ref a2, .int l1, .int x5] h none g6) (hc9 : (g6)[r0]? = some (10, fs9)) (hv9 : fs9[18]? = some (.int x9)) (hc10 : (g6)[r0]? = some (10, fs10)) (hk10 : 21 < fs10.length) (hr12 : ((g6).set r0 (10, fs10.set 21 (.int x9)))[r0]? = some (10, fs12)) (hm12 : MSE m_X10_go d [.ref r0] ((g6).set r0 (10, fs10.set 21 (.int x9))) none g12) (hP : P (.inl (some (.int 1))) g12) : SW sc m_X10_readsEnd (d + 1) rc rs 52 [some (.ref r0), some (.int l1)] [] h P := by
  refine sw_aload_n dX10_readsEnd_52 rfl ?_
  refine sw_getf dX10_readsEnd_53 lf_X10_23 hc2 hv2 ?_
  refine sw_iload_n dX10_readsEnd_56 rfl ?_
  refine sw_aload_n dX10_readsEnd_57 rfl ?_
  refine sw_getf dX10_readsEnd_58 lf_X10_178 hc5 hv5 ?_
  refine sw_cS dX10_readsEnd_61 ls_X10_205 hm6 rfl rfl (Nat.le_of_ble_eq_true rfl) (fun _ _ => rfl) rfl ?_
  show SW sc m_X10_readsEnd _ _ _ 64 [some (.ref r0), some (.int l1)] [] g6 P
  refine sw_aload_n dX10_readsEnd_64 rfl ?_
  refine sw_aload_n dX10_readsEnd_65 rfl ?_
  refine sw_getf dX10_readsEnd_66 lf_X10_178 hc9 hv9 ?_
  refine sw_putf dX10_readsEnd_69 lp_X10_199 hc10 hk10 (fun _ _ => ⟨rfl, rfl⟩) ?_
  refine sw_aload_n dX10_readsEnd_72 rfl ?_
  refine sw_cV dX10_readsEnd_73 lv_X10_202 hm12 hr12 rfl (by decide) rfl rfl rfl (Nat.le_of_ble_eq_true rfl) (fun _ _ => rfl) rfl ?_
  show SW sc m_X10_readsEnd _ _ _ 76 [some (.ref r0), some (.int l1)] [] g12 P
  refine sw_iconst (v := 1) dX10_readsEnd_76 (by decide) ?_
  exact sw_ret (v := (some (.int 1))) dX10_readsEnd_77 (rt_n (by decide)) hP
theorem b_X10_readsEdges_0 {r0 : Nat} {l1 : Int32} {l2 : Int32} {g2 : ab_H} {fs2 : List Value} {fs6 : List Value} {x6 : Int32} {v9 : Int32} {g9 : ab_H} {fs9 : List Value} (hr2 : (h)[r0]? = some (10, fs2)) (hm2 : MSE m_X10_go d [.ref r0] h none g2) (hc6 : (g2)[r0]? = some (10, fs6)) (hv6 : fs6[10]? = some (.int x6)) (hr9 : (g2)[r0]? = some (10, fs9)) (hm9 : MSE m_X10_reads d [.ref r0, .int 0, .int (x6 - 1)] g2 (some (.int v9)) g9) (kt : ¬ v9 = 0 → SW sc m_X10_readsEdges (d + 1) rc rs 20 [some (.ref r0), some (.int l1), some (.int l2), none] [] g9 P) (kf : v9 = 0 → SW sc m_X10_readsEdges (d + 1) rc rs 18 [none, none, none, none] [] g9 P) : SW sc m_X10_readsEdges (d + 1) rc rs 0 [some (.ref r0), some (.int l1), some (.int l2), none] [] h P := by
  refine sw_aload_n dX10_readsEdges_0 rfl ?_
  refine sw_cV dX10_readsEdges_1 lv_X10_202 hm2 hr2 rfl (by decide) rfl rfl rfl (Nat.le_of_ble_eq_true rfl) (fun _ _ => rfl) rfl ?_
  show SW sc m_X10_readsEdges _ _ _ 4 [some (.ref r0), some (.int l1), some (.int l2), none] [] g2 P
  refine sw_aload_n dX10_readsEdges_4 rfl ?_
  refine sw_iconst (v := 0) dX10_readsEdges_5 (by decide) ?_
  refine sw_aload_n dX10_readsEdges_6 rfl ?_
  refine sw_getf dX10_readsEdges_7 lf_X10_60 hc6 hv6 ?_
  refine sw_iconst (v := 1) dX10_readsEdges_10 (by decide) ?_
  refine sw_isub dX10_readsEdges_11 ?_
  refine sw_cV dX10_readsEdges_12 lv_X10_209 hm9 hr9 rfl (by decide) rfl rfl rfl (Nat.le_of_ble_eq_true rfl) (fun _ _ => rfl) rfl ?_
  show SW sc m_X10_readsEdges _ _ _ 15 [some (.ref r0), some (.int l1), some (.int l2), none] [.int v9] g9 P
  exact sw_if_ne dX10_readsEdges_15 (by decide) (fun q => (kt q)) (fun q => (sw_fg [true, true, true, false] rfl (kf q)))
theorem b_X10_readsEdges_18  (hP : P (.inl (some (.int 0))) h) : SW sc m_X10_readsEdges d rc rs 18 [none, none, none, none] [] h P := by
  refine sw_iconst (v := 0) dX10_readsEdges_18 (by decide) ?_
  exact sw_ret (v := (some (.int 0))) dX10_readsEdges_19 (rt_n (by decide)) hP
theorem b_X10_readsEdges_20 {r0 : Nat} {l1 : Int32} {l2 : Int32} {fs2 : List Value} {x2 : Int32} (hc2 : (h)[r0]? = some (10, fs2)) (hv2 : fs2[21]? = some (.int x2)) (k : SW sc m_X10_readsEdges d rc rs 25 [some (.ref r0), some (.int l1), some (.int l2), some (.int x2)] [] h P) : SW sc m_X10_readsEdges d rc rs 20 [some (.ref r0), some (.int l1), some (.int l2), none] [] h P := by
  refine sw_aload_n dX10_readsEdges_20 rfl ?_
  refine sw_getf dX10_readsEdges_21 lf_X10_199 hc2 hv2 ?_
  refine sw_istore_n dX10_readsEdges_24 (by decide) rfl ?_
  show SW sc m_X10_readsEdges _ _ _ 25 [some (.ref r0), some (.int l1), some (.int l2), some (.int x2)] [] h P
  exact (k)
theorem b_X10_readsEdges_25 {r0 : Nat} {l1 : Int32} {l2 : Int32} {l3 : Int32} {v3 : Int32} {g3 : ab_H} {fs3 : List Value} (hr3 : (h)[r0]? = some (10, fs3)) (hm3 : MSE m_X10_readsEnd d [.ref r0, .int l3] h (some (.int v3)) g3) (kt : ¬ v3 = 0 → SW sc m_X10_readsEdges (d + 1) rc rs 35 [some (.ref r0), some (.int l1), some (.int l2), some (.int l3)] [] g3 P) (kf : v3 = 0 → SW sc m_X10_readsEdges (d + 1) rc rs 33 [none, none, none, none] [] g3 P) : SW sc m_X10_readsEdges (d + 1) rc rs 25 [some (.ref r0), some (.int l1), some (.int l2), some (.int l3)] [] h P := by
  refine sw_aload_n dX10_readsEdges_25 rfl ?_
  refine sw_iload_n dX10_readsEdges_26 rfl ?_
  refine sw_cV dX10_readsEdges_27 lv_X10_212 hm3 hr3 rfl (by decide) rfl rfl rfl (Nat.le_of_ble_eq_true rfl) (fun _ _ => rfl) rfl ?_
  show SW sc m_X10_readsEdges _ _ _ 30 [some (.ref r0), some (.int l1), some (.int l2), some (.int l3)] [.int v3] g3 P
  exact sw_if_ne dX10_readsEdges_30 (by decide) (fun q => (kt q)) (fun q => (sw_fg [true, true, true, true] rfl (kf q)))
theorem b_X10_readsEdges_33  (hP : P (.inl (some (.int 0))) h) : SW sc m_X10_readsEdges d rc rs 33 [none, none, none, none] [] h P := by
  refine sw_iconst (v := 0) dX10_readsEdges_33 (by decide) ?_
  exact sw_ret (v := (some (.int 0))) dX10_readsEdges_34 (rt_n (by decide)) hP
theorem b_X10_readsEdges_35 {r0 : Nat} {l1 : Int32} {l2 : Int32} {l3 : Int32} (kt : l1 = 0 → SW sc m_X10_readsEdges d rc rs 46 [some (.ref r0), some (.int l1), some (.int l2), some (.int l3)] [] h P) (kf : ¬ (l1 = 0) → SW sc m_X10_readsEdges d rc rs 39 [some (.ref r0), some (.int l1), some (.int l2), none] [] h P) : SW sc m_X10_readsEdges d rc rs 35 [some (.ref r0), some (.int l1), some (.int l2), some (.int l3)] [] h P := by
  refine sw_iload_n dX10_readsEdges_35 rfl ?_
  exact sw_if_eq dX10_readsEdges_36 (by decide) (fun q => (kt q)) (fun q => (sw_fg [false, false, false, true] rfl (kf q)))
theorem b_X10_readsEdges_39 {r0 : Nat} {l1 : Int32} {l2 : Int32} {fs2 : List Value} {x2 : Int32} (hc2 : (h)[r0]? = some (10, fs2)) (hv2 : fs2[21]? = some (.int x2)) (k : SW sc m_X10_readsEdges d rc rs 47 [some (.ref r0), some (.int l1), some (.int l2), none] [.int x2] h P) : SW sc m_X10_readsEdges d rc rs 39 [some (.ref r0), some (.int l1), some (.int l2), none] [] h P := by
  refine sw_aload_n dX10_readsEdges_39 rfl ?_
  refine sw_getf dX10_readsEdges_40 lf_X10_199 hc2 hv2 ?_
  exact sw_goto dX10_readsEdges_43 (by decide) (k)
theorem b_X10_readsEdges_46 {r0 : Nat} {l1 : Int32} {l2 : Int32} {l3 : Int32} (k : SW sc m_X10_readsEdges d rc rs 47 [some (.ref r0), some (.int l1), some (.int l2), none] [.int l3] h P) : SW sc m_X10_readsEdges d rc rs 46 [some (.ref r0), some (.int l1), some (.int l2), some (.int l3)] [] h P := by
  refine sw_iload_n dX10_readsEdges_46 rfl ?_
  exact (sw_fg [false, false, false, true] rfl (k))
theorem b_X10_readsEdges_47 {r0 : Nat} {l1 : Int32} {l2 : Int32} {s0 : Int32} (kt : ¬ l2 = 0 → SW sc m_X10_readsEdges d rc rs 60 [none, none, none, none] [] h P) (kf : l2 = 0 → SW sc m_X10_readsEdges d rc rs 52 [some (.ref r0), some (.int l1), some (.int l2), some (.int s0)] [] h P) : SW sc m_X10_readsEdges d rc rs 47 [some (.ref r0), some (.int l1), some (.int l2), none] [.int s0] h P := by
  refine sw_istore_n dX10_readsEdges_47 (by decide) rfl ?_
  show SW sc m_X10_readsEdges _ _ _ 48 [some (.ref r0), some (.int l1), some (.int l2), some (.int s0)] [] h P
  refine sw_iload_n dX10_readsEdges_48 rfl ?_
  exact sw_if_ne dX10_readsEdges_49 (by decide) (fun q => (sw_fg [true, true, true, true] rfl (kt q))) (fun q => (kf q))
theorem b_X10_readsEdges_52 {r0 : Nat} {l1 : Int32} {l2 : Int32} {l3 : Int32} {fs2 : List Value} {x2 : Int32} (hc2 : (h)[r0]? = some (10, fs2)) (hv2 : fs2[17]? = some (.int x2)) (kt : x2 = 3 → SW sc m_X10_readsEdges d rc rs 25 [some (.ref r0), some (.int l1), some (.int l2), some (.int l3)] [] h P) (kf : ¬ (x2 = 3) → SW sc m_X10_readsEdges d rc rs 60 [none, none, none, none] [] h P) : SW sc m_X10_readsEdges d rc rs 52 [some (.ref r0), some (.int l1), some (.int l2), some (.int l3)] [] h P := by
  refine sw_aload_n dX10_readsEdges_52 rfl ?_
  refine sw_getf dX10_readsEdges_53 lf_X10_169 hc2 hv2 ?_
  refine sw_iconst (v := 3) dX10_readsEdges_56 (by decide) ?_
  exact sw_icmp_eq dX10_readsEdges_57 (by decide) (fun q => (kt q)) (fun q => (sw_fg [true, true, true, true] rfl (kf q)))
theorem b_X10_readsEdges_60  (hP : P (.inl (some (.int 1))) h) : SW sc m_X10_readsEdges d rc rs 60 [none, none, none, none] [] h P := by
  refine sw_iconst (v := 1) dX10_readsEdges_60 (by decide) ?_
  exact sw_ret (v := (some (.int 1))) dX10_readsEdges_61 (rt_n (by decide)) hP
theorem b_X10_codeMany_0 {l0 : Int32} (kt : 3 ≤ l0 → SW sc m_X10_codeMany d rc rs 9 [some (.int l0)] [] h P) (kf : ¬ (3 ≤ l0) → SW sc m_X10_codeMany d rc rs 5 [none] [] h P) : SW sc m_X10_codeMany d rc rs 0 [some (.int l0)] [] h P := by
  refine sw_iload_n dX10_codeMany_0 rfl ?_
  refine sw_iconst (v := 3) dX10_codeMany_1 (by decide) ?_
  exact sw_icmp_ge dX10_codeMany_2 (by decide) (fun q => (kt q)) (fun q => (sw_fg [true] rfl (kf q)))
theorem b_X10_codeMany_5  (k : SW sc m_X10_codeMany d rc rs 12 [none] [.int 0] h P) : SW sc m_X10_codeMany d rc rs 5 [none] [] h P := by
  refine sw_iconst (v := 0) dX10_codeMany_5 (by decide) ?_
  exact sw_goto dX10_codeMany_6 (by decide) (k)
theorem b_X10_codeMany_9 {l0 : Int32} (k : SW sc m_X10_codeMany d rc rs 12 [none] [.int (l0 - 2)] h P) : SW sc m_X10_codeMany d rc rs 9 [some (.int l0)] [] h P := by
  refine sw_iload_n dX10_codeMany_9 rfl ?_
  refine sw_iconst (v := 2) dX10_codeMany_10 (by decide) ?_
  refine sw_isub dX10_codeMany_11 ?_
  exact (sw_fg [true] rfl (k))
theorem b_X10_codeMany_12 {s0 : Int32} (hP : P (.inl (some (.int s0))) h) : SW sc m_X10_codeMany d rc rs 12 [none] [.int s0] h P := by
  exact sw_ret (v := (some (.int s0))) dX10_codeMany_12 rt_i hP
theorem b_X10_grows_0 {r0 : Nat} {l1 : Int32} {fs3 : List Value} (hc3 : (h)[r0]? = some (10, fs3)) (hk3 : 10 < fs3.length) (k : SW sc m_X10_grows d rc rs 7 [some (.ref r0), some (.int l1), some (.int 0), none, none] [] ((h).set r0 (10, fs3.set 10 (.int l1))) P) : SW sc m_X10_grows d rc rs 0 [some (.ref r0), some (.int l1), none, none, none] [] h P := by
  refine sw_aload_n dX10_grows_0 rfl ?_
  refine sw_iload_n dX10_grows_1 rfl ?_
  refine sw_putf dX10_grows_2 lp_X10_60 hc3 hk3 (fun _ _ => ⟨rfl, rfl⟩) ?_
  refine sw_iconst (v := 0) dX10_grows_5 (by decide) ?_
  refine sw_istore_n dX10_grows_6 (by decide) rfl ?_
  show SW sc m_X10_grows _ _ _ 7 [some (.ref r0), some (.int l1), some (.int 0), none, none] [] ((h).set r0 (10, fs3.set 10 (.int l1))) P
  exact (k)
theorem b_X10_grows_7 {r0 : Nat} {l1 : Int32} {l2 : Int32} (kt : 10 ≤ l2 → SW sc m_X10_grows d rc rs 26 [some (.ref r0), some (.int l1), none, none, none] [] h P) (kf : ¬ (10 ≤ l2) → SW sc m_X10_grows d rc rs 13 [some (.ref r0), some (.int l1), some (.int l2), none, none] [] h P) : SW sc m_X10_grows d rc rs 7 [some (.ref r0), some (.int l1), some (.int l2), none, none] [] h P := by
  refine sw_iload_n dX10_grows_7 rfl ?_
  refine sw_bipush (v := 10) dX10_grows_8 (by decide) ?_
  exact sw_icmp_ge dX10_grows_10 (by decide) (fun q => (sw_fg [false, false, true, false, false] rfl (kt q))) (fun q => (kf q))
theorem b_X10_grows_13 {r0 : Nat} {l1 : Int32} {l2 : Int32} {fs2 : List Value} {a2 : Nat} {vs5 : List Value} (hc2 : (h)[r0]? = some (10, fs2)) (hv2 : fs2[2]? = some (.ref a2)) (hc5 : (h)[a2]? = some (100, vs5)) (ho5 : ¬ l2 < 0) (hl5 : l2.toNatClampNeg < vs5.length) (k : SW sc m_X10_grows d rc rs 7 [some (.ref r0), some (.int l1), some (.int (l2 + 1)), none, none] [] ((h).set a2 (100, vs5.set l2.toNatClampNeg (.int 0))) P) : SW sc m_X10_grows d rc rs 13 [some (.ref r0), some (.int l1), some (.int l2), none, none] [] h P := by
  refine sw_aload_n dX10_grows_13 rfl ?_
  refine sw_getf dX10_grows_14 lf_X10_23 hc2 hv2 ?_
  refine sw_iload_n dX10_grows_17 rfl ?_
  refine sw_iconst (v := 0) dX10_grows_18 (by decide) ?_
  refine sw_iast dX10_grows_19 hc5 ho5 hl5 ?_
  refine sw_iinc (v := l2 + 1) dX10_grows_20 rfl rfl (by decide) rfl ?_
  show SW sc m_X10_grows _ _ _ 23 [some (.ref r0), some (.int l1), some (.int (l2 + 1)), none, none] [] ((h).set a2 (100, vs5.set l2.toNatClampNeg (.int 0))) P
  exact sw_goto dX10_grows_23 (by decide) (k)
theorem b_X10_grows_26 {r0 : Nat} {l1 : Int32} (k : SW sc m_X10_grows d rc rs 34 [some (.ref r0), some (.int l1), some (.int ((1 <<< (l1 &&& 31)) - 1)), some (.int 0), none] [] h P) : SW sc m_X10_grows d rc rs 26 [some (.ref r0), some (.int l1), none, none, none] [] h P := by
  refine sw_iconst (v := 1) dX10_grows_26 (by decide) ?_
  refine sw_iload_n dX10_grows_27 rfl ?_
  refine sw_ishl dX10_grows_28 ?_
  refine sw_iconst (v := 1) dX10_grows_29 (by decide) ?_
  refine sw_isub dX10_grows_30 ?_
  refine sw_istore_n dX10_grows_31 (by decide) rfl ?_
  show SW sc m_X10_grows _ _ _ 32 [some (.ref r0), some (.int l1), some (.int ((1 <<< (l1 &&& 31)) - 1)), none, none] [] h P
  refine sw_iconst (v := 0) dX10_grows_32 (by decide) ?_
  refine sw_istore_n dX10_grows_33 (by decide) rfl ?_
  show SW sc m_X10_grows _ _ _ 34 [some (.ref r0), some (.int l1), some (.int ((1 <<< (l1 &&& 31)) - 1)), some (.int 0), none] [] h P
  exact (k)
theorem b_X10_grows_34 {r0 : Nat} {l1 : Int32} {l2 : Int32} {l3 : Int32} {v3 : Int32} {g3 : ab_H} (hm3 : MSE m_X10_codeMany d [.int l1] h (some (.int v3)) g3) (kt : v3 ≤ l3 → SW sc m_X10_grows (d + 1) rc rs 101 [some (.ref r0), some (.int l1), some (.int l2), none, none] [] g3 P) (kf : ¬ (v3 ≤ l3) → SW sc m_X10_grows (d + 1) rc rs 42 [some (.ref r0), some (.int l1), some (.int l2), some (.int l3), none] [] g3 P) : SW sc m_X10_grows (d + 1) rc rs 34 [some (.ref r0), some (.int l1), some (.int l2), some (.int l3), none] [] h P := by
  refine sw_iload_n dX10_grows_34 rfl ?_
  refine sw_iload_n dX10_grows_35 rfl ?_
  refine sw_cS dX10_grows_36 ls_X10_215 hm3 rfl rfl (Nat.le_of_ble_eq_true rfl) (fun _ _ => rfl) rfl ?_
  show SW sc m_X10_grows _ _ _ 39 [some (.ref r0), some (.int l1), some (.int l2), some (.int l3), none] [.int v3, .int l3] g3 P
  exact sw_icmp_ge dX10_grows_39 (by decide) (fun q => (sw_fg [false, false, false, true, false] rfl (kt q))) (fun q => (kf q))
theorem b_X10_grows_42 {r0 : Nat} {l1 : Int32} {l2 : Int32} {l3 : Int32} (k : SW sc m_X10_grows d rc rs 45 [some (.ref r0), some (.int l1), some (.int l2), some (.int l3), some (.int 0)] [] h P) : SW sc m_X10_grows d rc rs 42 [some (.ref r0), some (.int l1), some (.int l2), some (.int l3), none] [] h P := by
  refine sw_iconst (v := 0) dX10_grows_42 (by decide) ?_
  refine sw_istore dX10_grows_43 (by decide) rfl ?_
  show SW sc m_X10_grows _ _ _ 45 [some (.ref r0), some (.int l1), some (.int l2), some (.int l3), some (.int 0)] [] h P
  exact (k)
theorem b_X10_grows_45 {r0 : Nat} {l1 : Int32} {l2 : Int32} {l3 : Int32} {l4 : Int32} {v3 : Int32} {g3 : ab_H} (hm3 : MSE m_X10_has d [.int l2, .int l4] h (some (.int v3)) g3) (kt : v3 = 0 → SW sc m_X10_grows (d + 1) rc rs 65 [some (.ref r0), some (.int l1), some (.int l2), some (.int l3), some (.int l4)] [] g3 P) (kf : ¬ (v3 = 0) → SW sc m_X10_grows (d + 1) rc rs 54 [some (.ref r0), some (.int l1), some (.int l2), some (.int l3), some (.int l4)] [] g3 P) : SW sc m_X10_grows (d + 1) rc rs 45 [some (.ref r0), some (.int l1), some (.int l2), some (.int l3), some (.int l4)] [] h P := by
  refine sw_iload_n dX10_grows_45 rfl ?_
  refine sw_iload dX10_grows_46 rfl ?_
  refine sw_cS dX10_grows_48 ls_X10_70 hm3 rfl rfl (Nat.le_of_ble_eq_true rfl) (fun _ _ => rfl) rfl ?_
  show SW sc m_X10_grows _ _ _ 51 [some (.ref r0), some (.int l1), some (.int l2), some (.int l3), some (.int l4)] [.int v3] g3 P
  exact sw_if_eq dX10_grows_51 (by decide) (fun q => (kt q)) (fun q => (kf q))
theorem b_X10_grows_54 {r0 : Nat} {l1 : Int32} {l2 : Int32} {l3 : Int32} {l4 : Int32} {v5 : Int32} {g5 : ab_H} {fs5 : List Value} (hr5 : (h)[r0]? = some (10, fs5)) (hm5 : MSE m_X10_isAhead d [.ref r0, .int l4, .int l3, .int l1] h (some (.int v5)) g5) (kt : v5 = 0 → SW sc m_X10_grows (d + 1) rc rs 71 [some (.ref r0), some (.int l1), some (.int l2), some (.int l3), some (.int l4)] [] g5 P) (kf : ¬ (v5 = 0) → SW sc m_X10_grows (d + 1) rc rs 65 [some (.ref r0), some (.int l1), some (.int l2), some (.int l3), some (.int l4)] [] g5 P) : SW sc m_X10_grows (d + 1) rc rs 54 [some (.ref r0), some (.int l1), some (.int l2), some (.int l3), some (.int l4)] [] h P := by
  refine sw_aload_n dX10_grows_54 rfl ?_
  refine sw_iload dX10_grows_55 rfl ?_
  refine sw_iload_n dX10_grows_57 rfl ?_
  refine sw_iload_n dX10_grows_58 rfl ?_
  refine sw_cV dX10_grows_59 lv_X10_218 hm5 hr5 rfl (by decide) rfl rfl rfl (Nat.le_of_ble_eq_true rfl) (fun _ _ => rfl) rfl ?_
  show SW sc m_X10_grows _ _ _ 62 [some (.ref r0), some (.int l1), some (.int l2), some (.int l3), some (.int l4)] [.int v5] g5 P
  exact sw_if_eq dX10_grows_62 (by decide) (fun q => (kt q)) (fun q => (kf q))
theorem b_X10_grows_65 {r0 : Nat} {l1 : Int32} {l2 : Int32} {l3 : Int32} {l4 : Int32} (k : SW sc m_X10_grows d rc rs 45 [some (.ref r0), some (.int l1), some (.int l2), some (.int l3), some (.int (l4 + 1))] [] h P) : SW sc m_X10_grows d rc rs 65 [some (.ref r0), some (.int l1), some (.int l2), some (.int l3), some (.int l4)] [] h P := by
  refine sw_iinc (v := l4 + 1) dX10_grows_65 rfl rfl (by decide) rfl ?_
  show SW sc m_X10_grows _ _ _ 68 [some (.ref r0), some (.int l1), some (.int l2), some (.int l3), some (.int (l4 + 1))] [] h P
  exact sw_goto dX10_grows_68 (by decide) (k)
theorem b_X10_grows_71 {r0 : Nat} {l1 : Int32} {l2 : Int32} {l3 : Int32} {l4 : Int32} {fs2 : List Value} {a2 : Nat} {fs5 : List Value} {a5 : Nat} {vs7 : List Value} {x7 : Int32} {g8 : ab_H} (hc2 : (h)[r0]? = some (10, fs2)) (hv2 : fs2[2]? = some (.ref a2)) (hc5 : (h)[r0]? = some (10, fs5)) (hv5 : fs5[22]? = some (.ref a5)) (hc7 : (h)[a5]? = some (100, vs7)) (ho7 : ¬ l3 < 0) (hi7 : vs7[l3.toNatClampNeg]? = some (.int x7)) (hm8 : MSE m_X10_joins d [.ref a2, .int l4, .int x7] h none g8) (k : SW sc m_X10_grows (d + 1) rc rs 34 [some (.ref r0), some (.int l1), some (.int (l2 &&& ((1 <<< (l4 &&& 31)) ^^^ (-1)))), some (.int (l3 + 1)), none] [] g8 P) : SW sc m_X10_grows (d + 1) rc rs 71 [some (.ref r0), some (.int l1), some (.int l2), some (.int l3), some (.int l4)] [] h P := by
  refine sw_aload_n dX10_grows_71 rfl ?_
  refine sw_getf dX10_grows_72 lf_X10_23 hc2 hv2 ?_
  refine sw_iload dX10_grows_75 rfl ?_
  refine sw_aload_n dX10_grows_77 rfl ?_
  refine sw_getf dX10_grows_78 lf_X10_44 hc5 hv5 ?_
  refine sw_iload_n dX10_grows_81 rfl ?_
  refine sw_iald dX10_grows_82 hc7 ho7 hi7 ?_
  refine sw_cS dX10_grows_83 ls_X10_205 hm8 rfl rfl (Nat.le_of_ble_eq_true rfl) (fun _ _ => rfl) rfl ?_
  show SW sc m_X10_grows _ _ _ 86 [some (.ref r0), some (.int l1), some (.int l2), some (.int l3), some (.int l4)] [] g8 P
  refine sw_iload_n dX10_grows_86 rfl ?_
  refine sw_iconst (v := 1) dX10_grows_87 (by decide) ?_
  refine sw_iload dX10_grows_88 rfl ?_
  refine sw_ishl dX10_grows_90 ?_
  refine sw_iconst (v := (-1)) dX10_grows_91 (by decide) ?_
  refine sw_ixor dX10_grows_92 ?_
  refine sw_iand dX10_grows_93 ?_
  refine sw_istore_n dX10_grows_94 (by decide) rfl ?_
  show SW sc m_X10_grows _ _ _ 95 [some (.ref r0), some (.int l1), some (.int (l2 &&& ((1 <<< (l4 &&& 31)) ^^^ (-1)))), some (.int l3), some (.int l4)] [] g8 P
  refine sw_iinc (v := l3 + 1) dX10_grows_95 rfl rfl (by decide) rfl ?_
  show SW sc m_X10_grows _ _ _ 98 [some (.ref r0), some (.int l1), some (.int (l2 &&& ((1 <<< (l4 &&& 31)) ^^^ (-1)))), some (.int (l3 + 1)), some (.int l4)] [] g8 P
  exact sw_goto dX10_grows_98 (by decide) (sw_fg [false, false, false, false, true] rfl (k))
theorem b_X10_grows_101 {r0 : Nat} {l1 : Int32} {l2 : Int32} (kt : l1 ≤ 1 → SW sc m_X10_grows d rc rs 125 [none, none, none, none, none] [] h P) (kf : ¬ (l1 ≤ 1) → SW sc m_X10_grows d rc rs 106 [some (.ref r0), none, some (.int l2), none, none] [] h P) : SW sc m_X10_grows d rc rs 101 [some (.ref r0), some (.int l1), some (.int l2), none, none] [] h P := by
  refine sw_iload_n dX10_grows_101 rfl ?_
  refine sw_iconst (v := 1) dX10_grows_102 (by decide) ?_
  exact sw_icmp_le dX10_grows_103 (by decide) (fun q => (sw_fg [true, true, true, false, false] rfl (kt q))) (fun q => (sw_fg [false, true, false, false, false] rfl (kf q)))
theorem b_X10_grows_106 {r0 : Nat} {l2 : Int32} {fs2 : List Value} {a2 : Nat} {v4 : Int32} {g4 : ab_H} {v10 : Int32} {g10 : ab_H} {g11 : ab_H} (hc2 : (h)[r0]? = some (10, fs2)) (hv2 : fs2[2]? = some (.ref a2)) (hm4 : MSE m_X10_lowest d [.int l2] h (some (.int v4)) g4) (hm10 : MSE m_X10_lowest d [.int (l2 &&& (l2 - 1))] g4 (some (.int v10)) g10) (hm11 : MSE m_X10_joins d [.ref a2, .int v4, .int v10] g10 none g11) (k : SW sc m_X10_grows (d + 1) rc rs 125 [none, none, none, none, none] [] g11 P) : SW sc m_X10_grows (d + 1) rc rs 106 [some (.ref r0), none, some (.int l2), none, none] [] h P := by
  refine sw_aload_n dX10_grows_106 rfl ?_
  refine sw_getf dX10_grows_107 lf_X10_23 hc2 hv2 ?_
  refine sw_iload_n dX10_grows_110 rfl ?_
  refine sw_cS dX10_grows_111 ls_X10_87 hm4 rfl rfl (Nat.le_of_ble_eq_true rfl) (fun _ _ => rfl) rfl ?_
  show SW sc m_X10_grows _ _ _ 114 [some (.ref r0), none, some (.int l2), none, none] [.int v4, .ref a2] g4 P
  refine sw_iload_n dX10_grows_114 rfl ?_
  refine sw_iload_n dX10_grows_115 rfl ?_
  refine sw_iconst (v := 1) dX10_grows_116 (by decide) ?_
  refine sw_isub dX10_grows_117 ?_
  refine sw_iand dX10_grows_118 ?_
  refine sw_cS dX10_grows_119 ls_X10_87 hm10 rfl rfl (Nat.le_of_ble_eq_true rfl) (fun _ _ => rfl) rfl ?_
  show SW sc m_X10_grows _ _ _ 122 [some (.ref r0), none, some (.int l2), none, none] [.int v10, .int v4, .ref a2] g10 P
  refine sw_cS dX10_grows_122 ls_X10_205 hm11 rfl rfl (Nat.le_of_ble_eq_true rfl) (fun _ _ => rfl) rfl ?_
  show SW sc m_X10_grows _ _ _ 125 [some (.ref r0), none, some (.int l2), none, none] [] g11 P
  exact (sw_fg [true, false, true, false, false] rfl (k))
theorem b_X10_grows_125  (hP : P (.inl none) h) : SW sc m_X10_grows d rc rs 125 [none, none, none, none, none] [] h P := by
  exact sw_ret (v := none) dX10_grows_125 rt_v hP
theorem b_X10_isAhead_0 {r0 : Nat} {l1 : Int32} {l2 : Int32} {l3 : Int32} (k : SW sc m_X10_isAhead d rc rs 3 [some (.ref r0), some (.int l1), none, some (.int l3), some (.int l2)] [] h P) : SW sc m_X10_isAhead d rc rs 0 [some (.ref r0), some (.int l1), some (.int l2), some (.int l3), none] [] h P := by
  refine sw_iload_n dX10_isAhead_0 rfl ?_
  refine sw_istore dX10_isAhead_1 (by decide) rfl ?_
  show SW sc m_X10_isAhead _ _ _ 3 [some (.ref r0), some (.int l1), some (.int l2), some (.int l3), some (.int l2)] [] h P
  exact (sw_fg [false, false, true, false, false] rfl (k))
theorem b_X10_isAhead_3 {r0 : Nat} {l1 : Int32} {l3 : Int32} {l4 : Int32} {v3 : Int32} {g3 : ab_H} (hm3 : MSE m_X10_codeMany d [.int l3] h (some (.int v3)) g3) (kt : v3 ≤ l4 → SW sc m_X10_isAhead (d + 1) rc rs 31 [none, none, none, none, none] [] g3 P) (kf : ¬ (v3 ≤ l4) → SW sc m_X10_isAhead (d + 1) rc rs 12 [some (.ref r0), some (.int l1), none, some (.int l3), some (.int l4)] [] g3 P) : SW sc m_X10_isAhead (d + 1) rc rs 3 [some (.ref r0), some (.int l1), none, some (.int l3), some (.int l4)] [] h P := by
  refine sw_iload dX10_isAhead_3 rfl ?_
  refine sw_iload_n dX10_isAhead_5 rfl ?_
  refine sw_cS dX10_isAhead_6 ls_X10_215 hm3 rfl rfl (Nat.le_of_ble_eq_true rfl) (fun _ _ => rfl) rfl ?_
  show SW sc m_X10_isAhead _ _ _ 9 [some (.ref r0), some (.int l1), none, some (.int l3), some (.int l4)] [.int v3, .int l4] g3 P
  exact sw_icmp_ge dX10_isAhead_9 (by decide) (fun q => (sw_fg [true, true, false, true, true] rfl (kt q))) (fun q => (kf q))
theorem b_X10_isAhead_12 {r0 : Nat} {l1 : Int32} {l3 : Int32} {l4 : Int32} {fs2 : List Value} {a2 : Nat} {vs4 : List Value} {x4 : Int32} (hc2 : (h)[r0]? = some (10, fs2)) (hv2 : fs2[22]? = some (.ref a2)) (hc4 : (h)[a2]? = some (100, vs4)) (ho4 : ¬ l4 < 0) (hi4 : vs4[l4.toNatClampNeg]? = some (.int x4)) (kt : ¬ x4 = l1 → SW sc m_X10_isAhead d rc rs 25 [some (.ref r0), some (.int l1), none, some (.int l3), some (.int l4)] [] h P) (kf : x4 = l1 → SW sc m_X10_isAhead d rc rs 23 [none, none, none, none, none] [] h P) : SW sc m_X10_isAhead d rc rs 12 [some (.ref r0), some (.int l1), none, some (.int l3), some (.int l4)] [] h P := by
  refine sw_aload_n dX10_isAhead_12 rfl ?_
  refine sw_getf dX10_isAhead_13 lf_X10_44 hc2 hv2 ?_
  refine sw_iload dX10_isAhead_16 rfl ?_
  refine sw_iald dX10_isAhead_18 hc4 ho4 hi4 ?_
  refine sw_iload_n dX10_isAhead_19 rfl ?_
  exact sw_icmp_ne dX10_isAhead_20 (by decide) (fun q => (kt q)) (fun q => (sw_fg [true, true, false, true, true] rfl (kf q)))
theorem b_X10_isAhead_23  (hP : P (.inl (some (.int 1))) h) : SW sc m_X10_isAhead d rc rs 23 [none, none, none, none, none] [] h P := by
  refine sw_iconst (v := 1) dX10_isAhead_23 (by decide) ?_
  exact sw_ret (v := (some (.int 1))) dX10_isAhead_24 (rt_n (by decide)) hP
theorem b_X10_isAhead_25 {r0 : Nat} {l1 : Int32} {l3 : Int32} {l4 : Int32} (k : SW sc m_X10_isAhead d rc rs 3 [some (.ref r0), some (.int l1), none, some (.int l3), some (.int (l4 + 1))] [] h P) : SW sc m_X10_isAhead d rc rs 25 [some (.ref r0), some (.int l1), none, some (.int l3), some (.int l4)] [] h P := by
  refine sw_iinc (v := l4 + 1) dX10_isAhead_25 rfl rfl (by decide) rfl ?_
  show SW sc m_X10_isAhead _ _ _ 28 [some (.ref r0), some (.int l1), none, some (.int l3), some (.int (l4 + 1))] [] h P
  exact sw_goto dX10_isAhead_28 (by decide) (k)
theorem b_X10_isAhead_31  (hP : P (.inl (some (.int 0))) h) : SW sc m_X10_isAhead d rc rs 31 [none, none, none, none, none] [] h P := by
  refine sw_iconst (v := 0) dX10_isAhead_31 (by decide) ?_
  exact sw_ret (v := (some (.int 0))) dX10_isAhead_32 (rt_n (by decide)) hP
theorem b_X10_hasEdges_0 {r0 : Nat} (k : SW sc m_X10_hasEdges d rc rs 2 [some (.ref r0), some (.int 0)] [] h P) : SW sc m_X10_hasEdges d rc rs 0 [some (.ref r0), none] [] h P := by
  refine sw_iconst (v := 0) dX10_hasEdges_0 (by decide) ?_
  refine sw_istore_n dX10_hasEdges_1 (by decide) rfl ?_
  show SW sc m_X10_hasEdges _ _ _ 2 [some (.ref r0), some (.int 0)] [] h P
  exact (k)
theorem b_X10_hasEdges_2 {r0 : Nat} {l1 : Int32} {fs3 : List Value} {x3 : Int32} (hc3 : (h)[r0]? = some (10, fs3)) (hv3 : fs3[10]? = some (.int x3)) (kt : x3 ≤ l1 → SW sc m_X10_hasEdges d rc rs 27 [none, none] [] h P) (kf : ¬ (x3 ≤ l1) → SW sc m_X10_hasEdges d rc rs 10 [some (.ref r0), some (.int l1)] [] h P) : SW sc m_X10_hasEdges d rc rs 2 [some (.ref r0), some (.int l1)] [] h P := by
  refine sw_iload_n dX10_hasEdges_2 rfl ?_
  refine sw_aload_n dX10_hasEdges_3 rfl ?_
  refine sw_getf dX10_hasEdges_4 lf_X10_60 hc3 hv3 ?_
  exact sw_icmp_ge dX10_hasEdges_7 (by decide) (fun q => (sw_fg [true, true] rfl (kt q))) (fun q => (kf q))
theorem b_X10_hasEdges_10 {r0 : Nat} {l1 : Int32} {fs2 : List Value} {a2 : Nat} {vs4 : List Value} {x4 : Int32} (hc2 : (h)[r0]? = some (10, fs2)) (hv2 : fs2[2]? = some (.ref a2)) (hc4 : (h)[a2]? = some (100, vs4)) (ho4 : ¬ l1 < 0) (hi4 : vs4[l1.toNatClampNeg]? = some (.int x4)) (kt : x4 = 0 → SW sc m_X10_hasEdges d rc rs 21 [some (.ref r0), some (.int l1)] [] h P) (kf : ¬ (x4 = 0) → SW sc m_X10_hasEdges d rc rs 19 [none, none] [] h P) : SW sc m_X10_hasEdges d rc rs 10 [some (.ref r0), some (.int l1)] [] h P := by
  refine sw_aload_n dX10_hasEdges_10 rfl ?_
  refine sw_getf dX10_hasEdges_11 lf_X10_23 hc2 hv2 ?_
  refine sw_iload_n dX10_hasEdges_14 rfl ?_
  refine sw_iald dX10_hasEdges_15 hc4 ho4 hi4 ?_
  exact sw_if_eq dX10_hasEdges_16 (by decide) (fun q => (kt q)) (fun q => (sw_fg [true, true] rfl (kf q)))
theorem b_X10_hasEdges_19  (hP : P (.inl (some (.int 1))) h) : SW sc m_X10_hasEdges d rc rs 19 [none, none] [] h P := by
  refine sw_iconst (v := 1) dX10_hasEdges_19 (by decide) ?_
  exact sw_ret (v := (some (.int 1))) dX10_hasEdges_20 (rt_n (by decide)) hP
theorem b_X10_hasEdges_21 {r0 : Nat} {l1 : Int32} (k : SW sc m_X10_hasEdges d rc rs 2 [some (.ref r0), some (.int (l1 + 1))] [] h P) : SW sc m_X10_hasEdges d rc rs 21 [some (.ref r0), some (.int l1)] [] h P := by
  refine sw_iinc (v := l1 + 1) dX10_hasEdges_21 rfl rfl (by decide) rfl ?_
  show SW sc m_X10_hasEdges _ _ _ 24 [some (.ref r0), some (.int (l1 + 1))] [] h P
  exact sw_goto dX10_hasEdges_24 (by decide) (k)
theorem b_X10_hasEdges_27  (hP : P (.inl (some (.int 0))) h) : SW sc m_X10_hasEdges d rc rs 27 [none, none] [] h P := by
  refine sw_iconst (v := 0) dX10_hasEdges_27 (by decide) ?_
  exact sw_ret (v := (some (.int 0))) dX10_hasEdges_28 (rt_n (by decide)) hP
theorem b_X10_readsCode_0 {r0 : Nat} {v2 : Int32} {g2 : ab_H} {fs2 : List Value} (hr2 : (h)[r0]? = some (10, fs2)) (hm2 : MSE m_X10_hasEdges d [.ref r0] h (some (.int v2)) g2) (kt : v2 = 0 → SW sc m_X10_readsCode (d + 1) rc rs 13 [some (.ref r0), none] [] g2 P) (kf : ¬ (v2 = 0) → SW sc m_X10_readsCode (d + 1) rc rs 7 [some (.ref r0), none] [] g2 P) : SW sc m_X10_readsCode (d + 1) rc rs 0 [some (.ref r0), none] [] h P := by
  refine sw_aload_n dX10_readsCode_0 rfl ?_
  refine sw_cV dX10_readsCode_1 lv_X10_221 hm2 hr2 rfl (by decide) rfl rfl rfl (Nat.le_of_ble_eq_true rfl) (fun _ _ => rfl) rfl ?_
  show SW sc m_X10_readsCode _ _ _ 4 [some (.ref r0), none] [.int v2] g2 P
  exact sw_if_eq dX10_readsCode_4 (by decide) (fun q => (kt q)) (fun q => (kf q))
theorem b_X10_readsCode_7 {r0 : Nat} {v3 : Int32} {g3 : ab_H} {fs3 : List Value} (hr3 : (h)[r0]? = some (10, fs3)) (hm3 : MSE m_X10_bad d [.ref r0, .int 4] h (some (.int v3)) g3) (hz4 : narrow .boolean (.int v3) = .int v3) (hP : P (.inl (some (.int v3))) g3) : SW sc m_X10_readsCode (d + 1) rc rs 7 [some (.ref r0), none] [] h P := by
  refine sw_aload_n dX10_readsCode_7 rfl ?_
  refine sw_iconst (v := 4) dX10_readsCode_8 (by decide) ?_
  refine sw_cV dX10_readsCode_9 lv_X10_196 hm3 hr3 rfl (by decide) rfl rfl rfl (Nat.le_of_ble_eq_true rfl) (fun _ _ => rfl) rfl ?_
  show SW sc m_X10_readsCode _ _ _ 12 [some (.ref r0), none] [.int v3] g3 P
  exact sw_ret (v := (some (.int v3))) dX10_readsCode_12 (rt_n hz4) hP
theorem b_X10_readsCode_13 {r0 : Nat} {g2 : ab_H} {fs2 : List Value} (hr2 : (h)[r0]? = some (10, fs2)) (hm2 : MSE m_X10_go d [.ref r0] h none g2) (k : SW sc m_X10_readsCode (d + 1) rc rs 19 [some (.ref r0), some (.int 0)] [] g2 P) : SW sc m_X10_readsCode (d + 1) rc rs 13 [some (.ref r0), none] [] h P := by
  refine sw_aload_n dX10_readsCode_13 rfl ?_
  refine sw_cV dX10_readsCode_14 lv_X10_202 hm2 hr2 rfl (by decide) rfl rfl rfl (Nat.le_of_ble_eq_true rfl) (fun _ _ => rfl) rfl ?_
  show SW sc m_X10_readsCode _ _ _ 17 [some (.ref r0), none] [] g2 P
  refine sw_iconst (v := 0) dX10_readsCode_17 (by decide) ?_
  refine sw_istore_n dX10_readsCode_18 (by decide) rfl ?_
  show SW sc m_X10_readsCode _ _ _ 19 [some (.ref r0), some (.int 0)] [] g2 P
  exact (k)
theorem b_X10_readsCode_19 {r0 : Nat} {l1 : Int32} {fs2 : List Value} {x2 : Int32} (hc2 : (h)[r0]? = some (10, fs2)) (hv2 : fs2[17]? = some (.int x2)) (kt : ¬ x2 = 3 → SW sc m_X10_readsCode d rc rs 81 [some (.ref r0), some (.int l1)] [] h P) (kf : x2 = 3 → SW sc m_X10_readsCode d rc rs 27 [some (.ref r0), some (.int l1)] [] h P) : SW sc m_X10_readsCode d rc rs 19 [some (.ref r0), some (.int l1)] [] h P := by
  refine sw_aload_n dX10_readsCode_19 rfl ?_
  refine sw_getf dX10_readsCode_20 lf_X10_169 hc2 hv2 ?_
  refine sw_iconst (v := 3) dX10_readsCode_23 (by decide) ?_
  exact sw_icmp_ne dX10_readsCode_24 (by decide) (fun q => (kt q)) (fun q => (kf q))
theorem b_X10_readsCode_27 {r0 : Nat} {l1 : Int32} {fs3 : List Value} {x3 : Int32} {v4 : Int32} {g4 : ab_H} (hc3 : (h)[r0]? = some (10, fs3)) (hv3 : fs3[10]? = some (.int x3)) (hm4 : MSE m_X10_codeMany d [.int x3] h (some (.int v4)) g4) (kt : ¬ l1 = v4 → SW sc m_X10_readsCode (d + 1) rc rs 44 [some (.ref r0), some (.int l1)] [] g4 P) (kf : l1 = v4 → SW sc m_X10_readsCode (d + 1) rc rs 38 [some (.ref r0), none] [] g4 P) : SW sc m_X10_readsCode (d + 1) rc rs 27 [some (.ref r0), some (.int l1)] [] h P := by
  refine sw_iload_n dX10_readsCode_27 rfl ?_
  refine sw_aload_n dX10_readsCode_28 rfl ?_
  refine sw_getf dX10_readsCode_29 lf_X10_60 hc3 hv3 ?_
  refine sw_cS dX10_readsCode_32 ls_X10_215 hm4 rfl rfl (Nat.le_of_ble_eq_true rfl) (fun _ _ => rfl) rfl ?_
  show SW sc m_X10_readsCode _ _ _ 35 [some (.ref r0), some (.int l1)] [.int v4, .int l1] g4 P
  exact sw_icmp_ne dX10_readsCode_35 (by decide) (fun q => (kt q)) (fun q => (sw_fg [false, true] rfl (kf q)))
theorem b_X10_readsCode_38 {r0 : Nat} {v3 : Int32} {g3 : ab_H} {fs3 : List Value} (hr3 : (h)[r0]? = some (10, fs3)) (hm3 : MSE m_X10_bad d [.ref r0, .int 1] h (some (.int v3)) g3) (hz4 : narrow .boolean (.int v3) = .int v3) (hP : P (.inl (some (.int v3))) g3) : SW sc m_X10_readsCode (d + 1) rc rs 38 [some (.ref r0), none] [] h P := by
  refine sw_aload_n dX10_readsCode_38 rfl ?_
  refine sw_iconst (v := 1) dX10_readsCode_39 (by decide) ?_
  refine sw_cV dX10_readsCode_40 lv_X10_196 hm3 hr3 rfl (by decide) rfl rfl rfl (Nat.le_of_ble_eq_true rfl) (fun _ _ => rfl) rfl ?_
  show SW sc m_X10_readsCode _ _ _ 43 [some (.ref r0), none] [.int v3] g3 P
  exact sw_ret (v := (some (.int v3))) dX10_readsCode_43 (rt_n hz4) hP
theorem b_X10_readsCode_44 {r0 : Nat} {l1 : Int32} {fs2 : List Value} {x2 : Int32} {fs4 : List Value} {x4 : Int32} (hc2 : (h)[r0]? = some (10, fs2)) (hv2 : fs2[18]? = some (.int x2)) (hc4 : (h)[r0]? = some (10, fs4)) (hv4 : fs4[10]? = some (.int x4)) (kt : x2 < x4 → SW sc m_X10_readsCode d rc rs 61 [some (.ref r0), some (.int l1)] [] h P) (kf : ¬ (x2 < x4) → SW sc m_X10_readsCode d rc rs 55 [some (.ref r0), none] [] h P) : SW sc m_X10_readsCode d rc rs 44 [some (.ref r0), some (.int l1)] [] h P := by
  refine sw_aload_n dX10_readsCode_44 rfl ?_
  refine sw_getf dX10_readsCode_45 lf_X10_178 hc2 hv2 ?_
  refine sw_aload_n dX10_readsCode_48 rfl ?_
  refine sw_getf dX10_readsCode_49 lf_X10_60 hc4 hv4 ?_
  exact sw_icmp_lt dX10_readsCode_52 (by decide) (fun q => (kt q)) (fun q => (sw_fg [false, true] rfl (kf q)))
theorem b_X10_readsCode_55 {r0 : Nat} {v3 : Int32} {g3 : ab_H} {fs3 : List Value} (hr3 : (h)[r0]? = some (10, fs3)) (hm3 : MSE m_X10_bad d [.ref r0, .int 2] h (some (.int v3)) g3) (hz4 : narrow .boolean (.int v3) = .int v3) (hP : P (.inl (some (.int v3))) g3) : SW sc m_X10_readsCode (d + 1) rc rs 55 [some (.ref r0), none] [] h P := by
  refine sw_aload_n dX10_readsCode_55 rfl ?_
  refine sw_iconst (v := 2) dX10_readsCode_56 (by decide) ?_
  refine sw_cV dX10_readsCode_57 lv_X10_196 hm3 hr3 rfl (by decide) rfl rfl rfl (Nat.le_of_ble_eq_true rfl) (fun _ _ => rfl) rfl ?_
  show SW sc m_X10_readsCode _ _ _ 60 [some (.ref r0), none] [.int v3] g3 P
  exact sw_ret (v := (some (.int v3))) dX10_readsCode_60 (rt_n hz4) hP
theorem b_X10_readsCode_61 {r0 : Nat} {l1 : Int32} {fs2 : List Value} {a2 : Nat} {fs5 : List Value} {x5 : Int32} {vs6 : List Value} {g9 : ab_H} {fs9 : List Value} (hc2 : (h)[r0]? = some (10, fs2)) (hv2 : fs2[22]? = some (.ref a2)) (hc5 : (h)[r0]? = some (10, fs5)) (hv5 : fs5[18]? = some (.int x5)) (hc6 : (h)[a2]? = some (100, vs6)) (ho6 : ¬ l1 < 0) (hl6 : l1.toNatClampNeg < vs6.length) (hr9 : ((h).set a2 (100, vs6.set l1.toNatClampNeg (.int x5)))[r0]? = some (10, fs9)) (hm9 : MSE m_X10_go d [.ref r0] ((h).set a2 (100, vs6.set l1.toNatClampNeg (.int x5))) none g9) (k : SW sc m_X10_readsCode (d + 1) rc rs 19 [some (.ref r0), some (.int (l1 + 1))] [] g9 P) : SW sc m_X10_readsCode (d + 1) rc rs 61 [some (.ref r0), some (.int l1)] [] h P := by
  refine sw_aload_n dX10_readsCode_61 rfl ?_
  refine sw_getf dX10_readsCode_62 lf_X10_44 hc2 hv2 ?_
  refine sw_iload_n dX10_readsCode_65 rfl ?_
  refine sw_aload_n dX10_readsCode_66 rfl ?_
  refine sw_getf dX10_readsCode_67 lf_X10_178 hc5 hv5 ?_
  refine sw_iast dX10_readsCode_70 hc6 ho6 hl6 ?_
  refine sw_iinc (v := l1 + 1) dX10_readsCode_71 rfl rfl (by decide) rfl ?_
  show SW sc m_X10_readsCode _ _ _ 74 [some (.ref r0), some (.int (l1 + 1))] [] ((h).set a2 (100, vs6.set l1.toNatClampNeg (.int x5))) P
  refine sw_aload_n dX10_readsCode_74 rfl ?_
  refine sw_cV dX10_readsCode_75 lv_X10_202 hm9 hr9 rfl (by decide) rfl rfl rfl (Nat.le_of_ble_eq_true rfl) (fun _ _ => rfl) rfl ?_
  show SW sc m_X10_readsCode _ _ _ 78 [some (.ref r0), some (.int (l1 + 1))] [] g9 P
  exact sw_goto dX10_readsCode_78 (by decide) (k)
theorem b_X10_readsCode_81 {r0 : Nat} {l1 : Int32} {fs3 : List Value} {x3 : Int32} {v4 : Int32} {g4 : ab_H} (hc3 : (h)[r0]? = some (10, fs3)) (hv3 : fs3[10]? = some (.int x3)) (hm4 : MSE m_X10_codeMany d [.int x3] h (some (.int v4)) g4) (kt : v4 ≤ l1 → SW sc m_X10_readsCode (d + 1) rc rs 98 [some (.ref r0), none] [] g4 P) (kf : ¬ (v4 ≤ l1) → SW sc m_X10_readsCode (d + 1) rc rs 92 [some (.ref r0), none] [] g4 P) : SW sc m_X10_readsCode (d + 1) rc rs 81 [some (.ref r0), some (.int l1)] [] h P := by
  refine sw_iload_n dX10_readsCode_81 rfl ?_
  refine sw_aload_n dX10_readsCode_82 rfl ?_
  refine sw_getf dX10_readsCode_83 lf_X10_60 hc3 hv3 ?_
  refine sw_cS dX10_readsCode_86 ls_X10_215 hm4 rfl rfl (Nat.le_of_ble_eq_true rfl) (fun _ _ => rfl) rfl ?_
  show SW sc m_X10_readsCode _ _ _ 89 [some (.ref r0), some (.int l1)] [.int v4, .int l1] g4 P
  exact sw_icmp_ge dX10_readsCode_89 (by decide) (fun q => (sw_fg [false, true] rfl (kt q))) (fun q => (sw_fg [false, true] rfl (kf q)))
theorem b_X10_readsCode_92 {r0 : Nat} {v3 : Int32} {g3 : ab_H} {fs3 : List Value} (hr3 : (h)[r0]? = some (10, fs3)) (hm3 : MSE m_X10_bad d [.ref r0, .int 1] h (some (.int v3)) g3) (hz4 : narrow .boolean (.int v3) = .int v3) (hP : P (.inl (some (.int v3))) g3) : SW sc m_X10_readsCode (d + 1) rc rs 92 [some (.ref r0), none] [] h P := by
  refine sw_aload_n dX10_readsCode_92 rfl ?_
  refine sw_iconst (v := 1) dX10_readsCode_93 (by decide) ?_
  refine sw_cV dX10_readsCode_94 lv_X10_196 hm3 hr3 rfl (by decide) rfl rfl rfl (Nat.le_of_ble_eq_true rfl) (fun _ _ => rfl) rfl ?_
  show SW sc m_X10_readsCode _ _ _ 97 [some (.ref r0), none] [.int v3] g3 P
  exact sw_ret (v := (some (.int v3))) dX10_readsCode_97 (rt_n hz4) hP
theorem b_X10_readsCode_98 {r0 : Nat} {fs2 : List Value} {x2 : Int32} (hc2 : (h)[r0]? = some (10, fs2)) (hv2 : fs2[17]? = some (.int x2)) (kt : x2 = 4 → SW sc m_X10_readsCode d rc rs 112 [some (.ref r0), none] [] h P) (kf : ¬ (x2 = 4) → SW sc m_X10_readsCode d rc rs 106 [some (.ref r0), none] [] h P) : SW sc m_X10_readsCode d rc rs 98 [some (.ref r0), none] [] h P := by
  refine sw_aload_n dX10_readsCode_98 rfl ?_
  refine sw_getf dX10_readsCode_99 lf_X10_169 hc2 hv2 ?_
  refine sw_iconst (v := 4) dX10_readsCode_102 (by decide) ?_
  exact sw_icmp_eq dX10_readsCode_103 (by decide) (fun q => (kt q)) (fun q => (kf q))
theorem b_X10_readsCode_106 {r0 : Nat} {v3 : Int32} {g3 : ab_H} {fs3 : List Value} (hr3 : (h)[r0]? = some (10, fs3)) (hm3 : MSE m_X10_bad d [.ref r0, .int 1] h (some (.int v3)) g3) (hz4 : narrow .boolean (.int v3) = .int v3) (hP : P (.inl (some (.int v3))) g3) : SW sc m_X10_readsCode (d + 1) rc rs 106 [some (.ref r0), none] [] h P := by
  refine sw_aload_n dX10_readsCode_106 rfl ?_
  refine sw_iconst (v := 1) dX10_readsCode_107 (by decide) ?_
  refine sw_cV dX10_readsCode_108 lv_X10_196 hm3 hr3 rfl (by decide) rfl rfl rfl (Nat.le_of_ble_eq_true rfl) (fun _ _ => rfl) rfl ?_
  show SW sc m_X10_readsCode _ _ _ 111 [some (.ref r0), none] [.int v3] g3 P
  exact sw_ret (v := (some (.int v3))) dX10_readsCode_111 (rt_n hz4) hP
theorem b_X10_readsCode_112 {r0 : Nat} {fs3 : List Value} {x3 : Int32} {g4 : ab_H} {fs4 : List Value} (hc3 : (h)[r0]? = some (10, fs3)) (hv3 : fs3[10]? = some (.int x3)) (hr4 : (h)[r0]? = some (10, fs4)) (hm4 : MSE m_X10_grows d [.ref r0, .int x3] h none g4) (hP : P (.inl (some (.int 1))) g4) : SW sc m_X10_readsCode (d + 1) rc rs 112 [some (.ref r0), none] [] h P := by
  refine sw_aload_n dX10_readsCode_112 rfl ?_
  refine sw_aload_n dX10_readsCode_113 rfl ?_
  refine sw_getf dX10_readsCode_114 lf_X10_60 hc3 hv3 ?_
  refine sw_cV dX10_readsCode_117 lv_X10_225 hm4 hr4 rfl (by decide) rfl rfl rfl (Nat.le_of_ble_eq_true rfl) (fun _ _ => rfl) rfl ?_
  show SW sc m_X10_readsCode _ _ _ 120 [some (.ref r0), none] [] g4 P
  refine sw_iconst (v := 1) dX10_readsCode_120 (by decide) ?_
  exact sw_ret (v := (some (.int 1))) dX10_readsCode_121 (rt_n (by decide)) hP
theorem b_X10_readsWeight_0 {r0 : Nat} {g2 : ab_H} {fs2 : List Value} {fs6 : List Value} {x6 : Int32} {v9 : Int32} {g9 : ab_H} {fs9 : List Value} (hr2 : (h)[r0]? = some (10, fs2)) (hm2 : MSE m_X10_go d [.ref r0] h none g2) (hc6 : (g2)[r0]? = some (10, fs6)) (hv6 : fs6[10]? = some (.int x6)) (hr9 : (g2)[r0]? = some (10, fs9)) (hm9 : MSE m_X10_reads d [.ref r0, .int 0, .int (x6 - 1)] g2 (some (.int v9)) g9) (kt : ¬ v9 = 0 → SW sc m_X10_readsWeight (d + 1) rc rs 20 [some (.ref r0), none] [] g9 P) (kf : v9 = 0 → SW sc m_X10_readsWeight (d + 1) rc rs 18 [none, none] [] g9 P) : SW sc m_X10_readsWeight (d + 1) rc rs 0 [some (.ref r0), none] [] h P := by
  refine sw_aload_n dX10_readsWeight_0 rfl ?_
  refine sw_cV dX10_readsWeight_1 lv_X10_202 hm2 hr2 rfl (by decide) rfl rfl rfl (Nat.le_of_ble_eq_true rfl) (fun _ _ => rfl) rfl ?_
  show SW sc m_X10_readsWeight _ _ _ 4 [some (.ref r0), none] [] g2 P
  refine sw_aload_n dX10_readsWeight_4 rfl ?_
  refine sw_iconst (v := 0) dX10_readsWeight_5 (by decide) ?_
  refine sw_aload_n dX10_readsWeight_6 rfl ?_
  refine sw_getf dX10_readsWeight_7 lf_X10_60 hc6 hv6 ?_
  refine sw_iconst (v := 1) dX10_readsWeight_10 (by decide) ?_
  refine sw_isub dX10_readsWeight_11 ?_
  refine sw_cV dX10_readsWeight_12 lv_X10_209 hm9 hr9 rfl (by decide) rfl rfl rfl (Nat.le_of_ble_eq_true rfl) (fun _ _ => rfl) rfl ?_
  show SW sc m_X10_readsWeight _ _ _ 15 [some (.ref r0), none] [.int v9] g9 P
  exact sw_if_ne dX10_readsWeight_15 (by decide) (fun q => (kt q)) (fun q => (sw_fg [true, false] rfl (kf q)))
theorem b_X10_readsWeight_18  (hP : P (.inl (some (.int 0))) h) : SW sc m_X10_readsWeight d rc rs 18 [none, none] [] h P := by
  refine sw_iconst (v := 0) dX10_readsWeight_18 (by decide) ?_
  exact sw_ret (v := (some (.int 0))) dX10_readsWeight_19 (rt_n (by decide)) hP
theorem b_X10_readsWeight_20 {r0 : Nat} {fs2 : List Value} {x2 : Int32} {v7 : Int32} {g7 : ab_H} {fs7 : List Value} (hc2 : (h)[r0]? = some (10, fs2)) (hv2 : fs2[21]? = some (.int x2)) (hr7 : (h)[r0]? = some (10, fs7)) (hm7 : MSE m_X10_reads d [.ref r0, .int 0, .int 99] h (some (.int v7)) g7) (kt : ¬ v7 = 0 → SW sc m_X10_readsWeight (d + 1) rc rs 37 [some (.ref r0), some (.int x2)] [] g7 P) (kf : v7 = 0 → SW sc m_X10_readsWeight (d + 1) rc rs 35 [none, none] [] g7 P) : SW sc m_X10_readsWeight (d + 1) rc rs 20 [some (.ref r0), none] [] h P := by
  refine sw_aload_n dX10_readsWeight_20 rfl ?_
  refine sw_getf dX10_readsWeight_21 lf_X10_199 hc2 hv2 ?_
  refine sw_istore_n dX10_readsWeight_24 (by decide) rfl ?_
  show SW sc m_X10_readsWeight _ _ _ 25 [some (.ref r0), some (.int x2)] [] h P
  refine sw_aload_n dX10_readsWeight_25 rfl ?_
  refine sw_iconst (v := 0) dX10_readsWeight_26 (by decide) ?_
  refine sw_bipush (v := 99) dX10_readsWeight_27 (by decide) ?_
  refine sw_cV dX10_readsWeight_29 lv_X10_209 hm7 hr7 rfl (by decide) rfl rfl rfl (Nat.le_of_ble_eq_true rfl) (fun _ _ => rfl) rfl ?_
  show SW sc m_X10_readsWeight _ _ _ 32 [some (.ref r0), some (.int x2)] [.int v7] g7 P
  exact sw_if_ne dX10_readsWeight_32 (by decide) (fun q => (kt q)) (fun q => (sw_fg [true, true] rfl (kf q)))
theorem b_X10_readsWeight_35  (hP : P (.inl (some (.int 0))) h) : SW sc m_X10_readsWeight d rc rs 35 [none, none] [] h P := by
  refine sw_iconst (v := 0) dX10_readsWeight_35 (by decide) ?_
  exact sw_ret (v := (some (.int 0))) dX10_readsWeight_36 (rt_n (by decide)) hP
theorem b_X10_readsWeight_37 {r0 : Nat} {l1 : Int32} {fs2 : List Value} {a2 : Nat} {fs7 : List Value} {x7 : Int32} {vs8 : List Value} (hc2 : (h)[r0]? = some (10, fs2)) (hv2 : fs2[2]? = some (.ref a2)) (hc7 : (h)[r0]? = some (10, fs7)) (hv7 : fs7[21]? = some (.int x7)) (hc8 : (h)[a2]? = some (100, vs8)) (ho8 : ¬ (10 + l1) < 0) (hl8 : (10 + l1).toNatClampNeg < vs8.length) (hP : P (.inl (some (.int 1))) ((h).set a2 (100, vs8.set (10 + l1).toNatClampNeg (.int x7)))) : SW sc m_X10_readsWeight d rc rs 37 [some (.ref r0), some (.int l1)] [] h P := by
  refine sw_aload_n dX10_readsWeight_37 rfl ?_
  refine sw_getf dX10_readsWeight_38 lf_X10_23 hc2 hv2 ?_
  refine sw_bipush (v := 10) dX10_readsWeight_41 (by decide) ?_
  refine sw_iload_n dX10_readsWeight_43 rfl ?_
  refine sw_iadd dX10_readsWeight_44 ?_
  refine sw_aload_n dX10_readsWeight_45 rfl ?_
  refine sw_getf dX10_readsWeight_46 lf_X10_199 hc7 hv7 ?_
  refine sw_iast dX10_readsWeight_49 hc8 ho8 hl8 ?_
  refine sw_iconst (v := 1) dX10_readsWeight_50 (by decide) ?_
  exact sw_ret (v := (some (.int 1))) dX10_readsWeight_51 (rt_n (by decide)) hP
theorem b_X10_readsStatement_0 {r0 : Nat} {v3 : Int32} {g3 : ab_H} {fs3 : List Value} (hr3 : (h)[r0]? = some (10, fs3)) (hm3 : MSE m_X10_isWord d [.ref r0, .retAddr 1] h (some (.int v3)) g3) (kt : v3 = 0 → SW sc m_X10_readsStatement (d + 1) rc rs 16 [some (.ref r0)] [] g3 P) (kf : ¬ (v3 = 0) → SW sc m_X10_readsStatement (d + 1) rc rs 9 [some (.ref r0)] [] g3 P) : SW sc m_X10_readsStatement (d + 1) rc rs 0 [some (.ref r0)] [] h P := by
  refine sw_aload_n dX10_readsStatement_0 rfl ?_
  refine sw_ldc (t := 1) dX10_readsStatement_1 sr_X10_228 rfl ?_
  refine sw_cV dX10_readsStatement_3 lv_X10_230 hm3 hr3 rfl (by decide) rfl rfl rfl (Nat.le_of_ble_eq_true rfl) (fun _ _ => rfl) rfl ?_
  show SW sc m_X10_readsStatement _ _ _ 6 [some (.ref r0)] [.int v3] g3 P
  exact sw_if_eq dX10_readsStatement_6 (by decide) (fun q => (kt q)) (fun q => (kf q))
theorem b_X10_readsStatement_9 {r0 : Nat} {v4 : Int32} {g4 : ab_H} {fs4 : List Value} (hr4 : (h)[r0]? = some (10, fs4)) (hm4 : MSE m_X10_readsEdges d [.ref r0, .int 1, .int 1] h (some (.int v4)) g4) (hz5 : narrow .boolean (.int v4) = .int v4) (hP : P (.inl (some (.int v4))) g4) : SW sc m_X10_readsStatement (d + 1) rc rs 9 [some (.ref r0)] [] h P := by
  refine sw_aload_n dX10_readsStatement_9 rfl ?_
  refine sw_iconst (v := 1) dX10_readsStatement_10 (by decide) ?_
  refine sw_iconst (v := 1) dX10_readsStatement_11 (by decide) ?_
  refine sw_cV dX10_readsStatement_12 lv_X10_234 hm4 hr4 rfl (by decide) rfl rfl rfl (Nat.le_of_ble_eq_true rfl) (fun _ _ => rfl) rfl ?_
  show SW sc m_X10_readsStatement _ _ _ 15 [some (.ref r0)] [.int v4] g4 P
  exact sw_ret (v := (some (.int v4))) dX10_readsStatement_15 (rt_n hz5) hP
theorem b_X10_readsStatement_16 {r0 : Nat} {v3 : Int32} {g3 : ab_H} {fs3 : List Value} (hr3 : (h)[r0]? = some (10, fs3)) (hm3 : MSE m_X10_isWord d [.ref r0, .retAddr 2] h (some (.int v3)) g3) (kt : v3 = 0 → SW sc m_X10_readsStatement (d + 1) rc rs 32 [some (.ref r0)] [] g3 P) (kf : ¬ (v3 = 0) → SW sc m_X10_readsStatement (d + 1) rc rs 25 [some (.ref r0)] [] g3 P) : SW sc m_X10_readsStatement (d + 1) rc rs 16 [some (.ref r0)] [] h P := by
  refine sw_aload_n dX10_readsStatement_16 rfl ?_
  refine sw_ldc (t := 2) dX10_readsStatement_17 sr_X10_238 rfl ?_
  refine sw_cV dX10_readsStatement_19 lv_X10_230 hm3 hr3 rfl (by decide) rfl rfl rfl (Nat.le_of_ble_eq_true rfl) (fun _ _ => rfl) rfl ?_
  show SW sc m_X10_readsStatement _ _ _ 22 [some (.ref r0)] [.int v3] g3 P
  exact sw_if_eq dX10_readsStatement_22 (by decide) (fun q => (kt q)) (fun q => (kf q))
theorem b_X10_readsStatement_25 {r0 : Nat} {v4 : Int32} {g4 : ab_H} {fs4 : List Value} (hr4 : (h)[r0]? = some (10, fs4)) (hm4 : MSE m_X10_readsEdges d [.ref r0, .int 1, .int 0] h (some (.int v4)) g4) (hz5 : narrow .boolean (.int v4) = .int v4) (hP : P (.inl (some (.int v4))) g4) : SW sc m_X10_readsStatement (d + 1) rc rs 25 [some (.ref r0)] [] h P := by
  refine sw_aload_n dX10_readsStatement_25 rfl ?_
  refine sw_iconst (v := 1) dX10_readsStatement_26 (by decide) ?_
  refine sw_iconst (v := 0) dX10_readsStatement_27 (by decide) ?_
  refine sw_cV dX10_readsStatement_28 lv_X10_234 hm4 hr4 rfl (by decide) rfl rfl rfl (Nat.le_of_ble_eq_true rfl) (fun _ _ => rfl) rfl ?_
  show SW sc m_X10_readsStatement _ _ _ 31 [some (.ref r0)] [.int v4] g4 P
  exact sw_ret (v := (some (.int v4))) dX10_readsStatement_31 (rt_n hz5) hP
theorem b_X10_readsStatement_32 {r0 : Nat} {v3 : Int32} {g3 : ab_H} {fs3 : List Value} (hr3 : (h)[r0]? = some (10, fs3)) (hm3 : MSE m_X10_isWord d [.ref r0, .retAddr 3] h (some (.int v3)) g3) (kt : v3 = 0 → SW sc m_X10_readsStatement (d + 1) rc rs 48 [some (.ref r0)] [] g3 P) (kf : ¬ (v3 = 0) → SW sc m_X10_readsStatement (d + 1) rc rs 41 [some (.ref r0)] [] g3 P) : SW sc m_X10_readsStatement (d + 1) rc rs 32 [some (.ref r0)] [] h P := by
  refine sw_aload_n dX10_readsStatement_32 rfl ?_
  refine sw_ldc (t := 3) dX10_readsStatement_33 sr_X10_240 rfl ?_
  refine sw_cV dX10_readsStatement_35 lv_X10_230 hm3 hr3 rfl (by decide) rfl rfl rfl (Nat.le_of_ble_eq_true rfl) (fun _ _ => rfl) rfl ?_
  show SW sc m_X10_readsStatement _ _ _ 38 [some (.ref r0)] [.int v3] g3 P
  exact sw_if_eq dX10_readsStatement_38 (by decide) (fun q => (kt q)) (fun q => (kf q))
theorem b_X10_readsStatement_41 {r0 : Nat} {v4 : Int32} {g4 : ab_H} {fs4 : List Value} (hr4 : (h)[r0]? = some (10, fs4)) (hm4 : MSE m_X10_readsEdges d [.ref r0, .int 0, .int 0] h (some (.int v4)) g4) (hz5 : narrow .boolean (.int v4) = .int v4) (hP : P (.inl (some (.int v4))) g4) : SW sc m_X10_readsStatement (d + 1) rc rs 41 [some (.ref r0)] [] h P := by
  refine sw_aload_n dX10_readsStatement_41 rfl ?_
  refine sw_iconst (v := 0) dX10_readsStatement_42 (by decide) ?_
  refine sw_iconst (v := 0) dX10_readsStatement_43 (by decide) ?_
  refine sw_cV dX10_readsStatement_44 lv_X10_234 hm4 hr4 rfl (by decide) rfl rfl rfl (Nat.le_of_ble_eq_true rfl) (fun _ _ => rfl) rfl ?_
  show SW sc m_X10_readsStatement _ _ _ 47 [some (.ref r0)] [.int v4] g4 P
  exact sw_ret (v := (some (.int v4))) dX10_readsStatement_47 (rt_n hz5) hP
theorem b_X10_readsStatement_48 {r0 : Nat} {v3 : Int32} {g3 : ab_H} {fs3 : List Value} (hr3 : (h)[r0]? = some (10, fs3)) (hm3 : MSE m_X10_isWord d [.ref r0, .retAddr 4] h (some (.int v3)) g3) (kt : v3 = 0 → SW sc m_X10_readsStatement (d + 1) rc rs 62 [some (.ref r0)] [] g3 P) (kf : ¬ (v3 = 0) → SW sc m_X10_readsStatement (d + 1) rc rs 57 [some (.ref r0)] [] g3 P) : SW sc m_X10_readsStatement (d + 1) rc rs 48 [some (.ref r0)] [] h P := by
  refine sw_aload_n dX10_readsStatement_48 rfl ?_
  refine sw_ldc (t := 4) dX10_readsStatement_49 sr_X10_242 rfl ?_
  refine sw_cV dX10_readsStatement_51 lv_X10_230 hm3 hr3 rfl (by decide) rfl rfl rfl (Nat.le_of_ble_eq_true rfl) (fun _ _ => rfl) rfl ?_
  show SW sc m_X10_readsStatement _ _ _ 54 [some (.ref r0)] [.int v3] g3 P
  exact sw_if_eq dX10_readsStatement_54 (by decide) (fun q => (kt q)) (fun q => (kf q))
theorem b_X10_readsStatement_57 {r0 : Nat} {v2 : Int32} {g2 : ab_H} {fs2 : List Value} (hr2 : (h)[r0]? = some (10, fs2)) (hm2 : MSE m_X10_readsCode d [.ref r0] h (some (.int v2)) g2) (hz3 : narrow .boolean (.int v2) = .int v2) (hP : P (.inl (some (.int v2))) g2) : SW sc m_X10_readsStatement (d + 1) rc rs 57 [some (.ref r0)] [] h P := by
  refine sw_aload_n dX10_readsStatement_57 rfl ?_
  refine sw_cV dX10_readsStatement_58 lv_X10_243 hm2 hr2 rfl (by decide) rfl rfl rfl (Nat.le_of_ble_eq_true rfl) (fun _ _ => rfl) rfl ?_
  show SW sc m_X10_readsStatement _ _ _ 61 [some (.ref r0)] [.int v2] g2 P
  exact sw_ret (v := (some (.int v2))) dX10_readsStatement_61 (rt_n hz3) hP
theorem b_X10_readsStatement_62 {r0 : Nat} {v3 : Int32} {g3 : ab_H} {fs3 : List Value} (hr3 : (h)[r0]? = some (10, fs3)) (hm3 : MSE m_X10_isWord d [.ref r0, .retAddr 5] h (some (.int v3)) g3) (kt : v3 = 0 → SW sc m_X10_readsStatement (d + 1) rc rs 78 [some (.ref r0)] [] g3 P) (kf : ¬ (v3 = 0) → SW sc m_X10_readsStatement (d + 1) rc rs 71 [some (.ref r0)] [] g3 P) : SW sc m_X10_readsStatement (d + 1) rc rs 62 [some (.ref r0)] [] h P := by
  refine sw_aload_n dX10_readsStatement_62 rfl ?_
  refine sw_ldc (t := 5) dX10_readsStatement_63 sr_X10_246 rfl ?_
  refine sw_cV dX10_readsStatement_65 lv_X10_230 hm3 hr3 rfl (by decide) rfl rfl rfl (Nat.le_of_ble_eq_true rfl) (fun _ _ => rfl) rfl ?_
  show SW sc m_X10_readsStatement _ _ _ 68 [some (.ref r0)] [.int v3] g3 P
  exact sw_if_eq dX10_readsStatement_68 (by decide) (fun q => (kt q)) (fun q => (kf q))
theorem b_X10_readsStatement_71 {r0 : Nat} {v2 : Int32} {g2 : ab_H} {fs2 : List Value} (hr2 : (h)[r0]? = some (10, fs2)) (hm2 : MSE m_X10_readsWeight d [.ref r0] h (some (.int v2)) g2) (k : SW sc m_X10_readsStatement (d + 1) rc rs 83 [none] [.int v2] g2 P) : SW sc m_X10_readsStatement (d + 1) rc rs 71 [some (.ref r0)] [] h P := by
  refine sw_aload_n dX10_readsStatement_71 rfl ?_
  refine sw_cV dX10_readsStatement_72 lv_X10_248 hm2 hr2 rfl (by decide) rfl rfl rfl (Nat.le_of_ble_eq_true rfl) (fun _ _ => rfl) rfl ?_
  show SW sc m_X10_readsStatement _ _ _ 75 [some (.ref r0)] [.int v2] g2 P
  exact sw_goto dX10_readsStatement_75 (by decide) (sw_fg [true] rfl (k))
theorem b_X10_readsStatement_78 {r0 : Nat} {v3 : Int32} {g3 : ab_H} {fs3 : List Value} (hr3 : (h)[r0]? = some (10, fs3)) (hm3 : MSE m_X10_bad d [.ref r0, .int 1] h (some (.int v3)) g3) (k : SW sc m_X10_readsStatement (d + 1) rc rs 83 [none] [.int v3] g3 P) : SW sc m_X10_readsStatement (d + 1) rc rs 78 [some (.ref r0)] [] h P := by
  refine sw_aload_n dX10_readsStatement_78 rfl ?_
  refine sw_iconst (v := 1) dX10_readsStatement_79 (by decide) ?_
  refine sw_cV dX10_readsStatement_80 lv_X10_196 hm3 hr3 rfl (by decide) rfl rfl rfl (Nat.le_of_ble_eq_true rfl) (fun _ _ => rfl) rfl ?_
  show SW sc m_X10_readsStatement _ _ _ 83 [some (.ref r0)] [.int v3] g3 P
  exact (sw_fg [true] rfl (k))
theorem b_X10_readsStatement_83 {s0 : Int32} (hz1 : narrow .boolean (.int s0) = .int s0) (hP : P (.inl (some (.int s0))) h) : SW sc m_X10_readsStatement d rc rs 83 [none] [.int s0] h P := by
  exact sw_ret (v := (some (.int s0))) dX10_readsStatement_83 (rt_n hz1) hP
end
