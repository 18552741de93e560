section
variable {sc : Option (List Int32)} {d rc rs : Nat} {h : ab_H} {P : ab_O → ab_H → Prop}
theorem b_X10_isDigit_17 {s0 : Int32} (hz1 : narrow .boolean (.int s0) = .int s0) (hP : P (.inl (some (.int s0))) h) : SW sc m_X10_isDigit d rc rs 17 [none] [.int s0] h P := by
  exact sw_ret (v := (some (.int s0))) dX10_isDigit_17 (rt_n hz1) hP
theorem b_X10_go_0 {r0 : Nat} {fs3 : List Value} {x3 : Int32} {v4 : Int32} {g4 : ab_H} {fs4 : List Value} (hc3 : (h)[r0]? = some (10, fs3)) (hv3 : fs3[15]? = some (.int x3)) (hr4 : (h)[r0]? = some (10, fs4)) (hm4 : MSE m_X10_byteAt d [.ref r0, .int x3] h (some (.int v4)) g4) (kt : v4 = 32 → SW sc m_X10_go (d + 1) rc rs 26 [some (.ref r0), none] [] g4 P) (kf : ¬ (v4 = 32) → SW sc m_X10_go (d + 1) rc rs 13 [some (.ref r0), none] [] g4 P) : SW sc m_X10_go (d + 1) rc rs 0 [some (.ref r0), none] [] h P := by
  refine sw_aload_n dX10_go_0 rfl ?_
  refine sw_aload_n dX10_go_1 rfl ?_
  refine sw_getf dX10_go_2 lf_X10_160 hc3 hv3 ?_
  refine sw_cV (M := m_X10_go) dX10_go_5 lv_X10_163 hm4 hr4 rfl (by decide) rfl rfl rfl (Nat.le_of_ble_eq_true rfl) (fun _ _ => rfl) rfl ?_
  show SW sc m_X10_go _ _ _ 8 [some (.ref r0), none] [.int v4] g4 P
  refine sw_bipush (v := 32) dX10_go_8 (by decide) ?_
  exact sw_icmp_eq dX10_go_10 (by decide) (fun q => (kt q)) (fun q => (kf q))
theorem b_X10_go_13 {r0 : Nat} {fs3 : List Value} {x3 : Int32} {v4 : Int32} {g4 : ab_H} {fs4 : List Value} (hc3 : (h)[r0]? = some (10, fs3)) (hv3 : fs3[15]? = some (.int x3)) (hr4 : (h)[r0]? = some (10, fs4)) (hm4 : MSE m_X10_byteAt d [.ref r0, .int x3] h (some (.int v4)) g4) (kt : ¬ v4 = 10 → SW sc m_X10_go (d + 1) rc rs 39 [some (.ref r0), none] [] g4 P) (kf : v4 = 10 → SW sc m_X10_go (d + 1) rc rs 26 [some (.ref r0), none] [] g4 P) : SW sc m_X10_go (d + 1) rc rs 13 [some (.ref r0), none] [] h P := by
  refine sw_aload_n dX10_go_13 rfl ?_
  refine sw_aload_n dX10_go_14 rfl ?_
  refine sw_getf dX10_go_15 lf_X10_160 hc3 hv3 ?_
  refine sw_cV (M := m_X10_go) dX10_go_18 lv_X10_163 hm4 hr4 rfl (by decide) rfl rfl rfl (Nat.le_of_ble_eq_true rfl) (fun _ _ => rfl) rfl ?_
  show SW sc m_X10_go _ _ _ 21 [some (.ref r0), none] [.int v4] g4 P
  refine sw_bipush (v := 10) dX10_go_21 (by decide) ?_
  exact sw_icmp_ne dX10_go_23 (by decide) (fun q => (kt q)) (fun q => (kf q))
theorem b_X10_go_26 {r0 : Nat} {fs3 : List Value} {x3 : Int32} {fs6 : List Value} (hc3 : (h)[r0]? = some (10, fs3)) (hv3 : fs3[15]? = some (.int x3)) (hc6 : (h)[r0]? = some (10, fs6)) (hk6 : 15 < fs6.length) (k : SW sc m_X10_go d rc rs 0 [some (.ref r0), none] [] ((h).set r0 (10, fs6.set 15 (.int (x3 + 1)))) P) : SW sc m_X10_go d rc rs 26 [some (.ref r0), none] [] h P := by
  refine sw_aload_n dX10_go_26 rfl ?_
  refine sw_dup dX10_go_27 (fun _ _ => rfl) ?_
  refine sw_getf dX10_go_28 lf_X10_160 hc3 hv3 ?_
  refine sw_iconst (v := 1) dX10_go_31 (by decide) ?_
  refine sw_iadd dX10_go_32 ?_
  refine sw_putf dX10_go_33 lp_X10_160 hc6 hk6 (fun _ _ => ⟨rfl, rfl⟩) ?_
  exact sw_goto dX10_go_36 (by decide) (k)
theorem b_X10_go_39 {r0 : Nat} {fs3 : List Value} {x3 : Int32} {fs4 : List Value} {fs7 : List Value} {x7 : Int32} {v8 : Int32} {g8 : ab_H} {fs8 : List Value} (hc3 : (h)[r0]? = some (10, fs3)) (hv3 : fs3[15]? = some (.int x3)) (hc4 : (h)[r0]? = some (10, fs4)) (hk4 : 16 < fs4.length) (hc7 : ((h).set r0 (10, fs4.set 16 (.int x3)))[r0]? = some (10, fs7)) (hv7 : fs7[15]? = some (.int x7)) (hr8 : ((h).set r0 (10, fs4.set 16 (.int x3)))[r0]? = some (10, fs8)) (hm8 : MSE m_X10_byteAt d [.ref r0, .int x7] ((h).set r0 (10, fs4.set 16 (.int x3))) (some (.int v8)) g8) (kt : ¬ v8 = (-1) → SW sc m_X10_go (d + 1) rc rs 69 [some (.ref r0), some (.int v8)] [] g8 P) (kf : v8 = (-1) → SW sc m_X10_go (d + 1) rc rs 61 [some (.ref r0), none] [] g8 P) : SW sc m_X10_go (d + 1) rc rs 39 [some (.ref r0), none] [] h P := by
  refine sw_aload_n dX10_go_39 rfl ?_
  refine sw_aload_n dX10_go_40 rfl ?_
  refine sw_getf dX10_go_41 lf_X10_160 hc3 hv3 ?_
  refine sw_putf dX10_go_44 lp_X10_166 hc4 hk4 (fun _ _ => ⟨rfl, rfl⟩) ?_
  refine sw_aload_n dX10_go_47 rfl ?_
  refine sw_aload_n dX10_go_48 rfl ?_
  refine sw_getf dX10_go_49 lf_X10_160 hc7 hv7 ?_
  refine sw_cV (M := m_X10_go) dX10_go_52 lv_X10_163 hm8 hr8 rfl (by decide) rfl rfl rfl (Nat.le_of_ble_eq_true rfl) (fun _ _ => rfl) rfl ?_
  show SW sc m_X10_go _ _ _ 55 [some (.ref r0), none] [.int v8] g8 P
  refine sw_istore_n dX10_go_55 (by decide) rfl ?_
  show SW sc m_X10_go _ _ _ 56 [some (.ref r0), some (.int v8)] [] g8 P
  refine sw_iload_n dX10_go_56 rfl ?_
  refine sw_iconst (v := (-1)) dX10_go_57 (by decide) ?_
  exact sw_icmp_ne dX10_go_58 (by decide) (fun q => (kt q)) (fun q => (sw_fg [false, true] rfl (kf q)))
theorem b_X10_go_61 {r0 : Nat} {fs3 : List Value} (hc3 : (h)[r0]? = some (10, fs3)) (hk3 : 17 < fs3.length) (k : SW sc m_X10_go d rc rs 237 [none, none] [] ((h).set r0 (10, fs3.set 17 (.int 0))) P) : SW sc m_X10_go d rc rs 61 [some (.ref r0), none] [] h P := by
  refine sw_aload_n dX10_go_61 rfl ?_
  refine sw_iconst (v := 0) dX10_go_62 (by decide) ?_
  refine sw_putf dX10_go_63 lp_X10_169 hc3 hk3 (fun _ _ => ⟨rfl, rfl⟩) ?_
  exact sw_goto dX10_go_66 (by decide) (sw_fg [true, false] rfl (k))
theorem b_X10_go_69 {r0 : Nat} {l1 : Int32} {v2 : Int32} {g2 : ab_H} (hm2 : MSE m_X10_isSmall d [.int l1] h (some (.int v2)) g2) (kt : v2 = 0 → SW sc m_X10_go (d + 1) rc rs 111 [some (.ref r0), some (.int l1)] [] g2 P) (kf : ¬ (v2 = 0) → SW sc m_X10_go (d + 1) rc rs 76 [some (.ref r0), none] [] g2 P) : SW sc m_X10_go (d + 1) rc rs 69 [some (.ref r0), some (.int l1)] [] h P := by
  refine sw_iload_n dX10_go_69 rfl ?_
  refine sw_cS (M := m_X10_go) dX10_go_70 ls_X10_172 hm2 rfl rfl (Nat.le_of_ble_eq_true rfl) (fun _ _ => rfl) rfl ?_
  show SW sc m_X10_go _ _ _ 73 [some (.ref r0), some (.int l1)] [.int v2] g2 P
  exact sw_if_eq dX10_go_73 (by decide) (fun q => (kt q)) (fun q => (sw_fg [false, true] rfl (kf q)))
theorem b_X10_go_76 {r0 : Nat} {fs3 : List Value} {x3 : Int32} {v4 : Int32} {g4 : ab_H} {fs4 : List Value} {v5 : Int32} {g5 : ab_H} (hc3 : (h)[r0]? = some (10, fs3)) (hv3 : fs3[15]? = some (.int x3)) (hr4 : (h)[r0]? = some (10, fs4)) (hm4 : MSE m_X10_byteAt d [.ref r0, .int x3] h (some (.int v4)) g4) (hm5 : MSE m_X10_isSmall d [.int v4] g4 (some (.int v5)) g5) (kt : v5 = 0 → SW sc m_X10_go (d + 1) rc rs 103 [some (.ref r0), none] [] g5 P) (kf : ¬ (v5 = 0) → SW sc m_X10_go (d + 1) rc rs 90 [some (.ref r0), none] [] g5 P) : SW sc m_X10_go (d + 1) rc rs 76 [some (.ref r0), none] [] h P := by
  refine sw_aload_n dX10_go_76 rfl ?_
  refine sw_aload_n dX10_go_77 rfl ?_
  refine sw_getf dX10_go_78 lf_X10_160 hc3 hv3 ?_
  refine sw_cV (M := m_X10_go) dX10_go_81 lv_X10_163 hm4 hr4 rfl (by decide) rfl rfl rfl (Nat.le_of_ble_eq_true rfl) (fun _ _ => rfl) rfl ?_
  show SW sc m_X10_go _ _ _ 84 [some (.ref r0), none] [.int v4] g4 P
  refine sw_cS (M := m_X10_go) dX10_go_84 ls_X10_172 hm5 rfl rfl (Nat.le_of_ble_eq_true rfl) (fun _ _ => rfl) rfl ?_
  show SW sc m_X10_go _ _ _ 87 [some (.ref r0), none] [.int v5] g5 P
  exact sw_if_eq dX10_go_87 (by decide) (fun q => (kt q)) (fun q => (kf q))
theorem b_X10_go_90 {r0 : Nat} {fs3 : List Value} {x3 : Int32} {fs6 : List Value} (hc3 : (h)[r0]? = some (10, fs3)) (hv3 : fs3[15]? = some (.int x3)) (hc6 : (h)[r0]? = some (10, fs6)) (hk6 : 15 < fs6.length) (k : SW sc m_X10_go d rc rs 76 [some (.ref r0), none] [] ((h).set r0 (10, fs6.set 15 (.int (x3 + 1)))) P) : SW sc m_X10_go d rc rs 90 [some (.ref r0), none] [] h P := by
  refine sw_aload_n dX10_go_90 rfl ?_
  refine sw_dup dX10_go_91 (fun _ _ => rfl) ?_
  refine sw_getf dX10_go_92 lf_X10_160 hc3 hv3 ?_
  refine sw_iconst (v := 1) dX10_go_95 (by decide) ?_
  refine sw_iadd dX10_go_96 ?_
  refine sw_putf dX10_go_97 lp_X10_160 hc6 hk6 (fun _ _ => ⟨rfl, rfl⟩) ?_
  exact sw_goto dX10_go_100 (by decide) (k)
theorem b_X10_go_103 {r0 : Nat} {fs3 : List Value} (hc3 : (h)[r0]? = some (10, fs3)) (hk3 : 17 < fs3.length) (k : SW sc m_X10_go d rc rs 237 [none, none] [] ((h).set r0 (10, fs3.set 17 (.int 2))) P) : SW sc m_X10_go d rc rs 103 [some (.ref r0), none] [] h P := by
  refine sw_aload_n dX10_go_103 rfl ?_
  refine sw_iconst (v := 2) dX10_go_104 (by decide) ?_
  refine sw_putf dX10_go_105 lp_X10_169 hc3 hk3 (fun _ _ => ⟨rfl, rfl⟩) ?_
  exact sw_goto dX10_go_108 (by decide) (sw_fg [true, false] rfl (k))
theorem b_X10_go_111 {r0 : Nat} {l1 : Int32} {v2 : Int32} {g2 : ab_H} (hm2 : MSE m_X10_isDigit d [.int l1] h (some (.int v2)) g2) (kt : v2 = 0 → SW sc m_X10_go (d + 1) rc rs 212 [some (.ref r0), some (.int l1)] [] g2 P) (kf : ¬ (v2 = 0) → SW sc m_X10_go (d + 1) rc rs 118 [some (.ref r0), none] [] g2 P) : SW sc m_X10_go (d + 1) rc rs 111 [some (.ref r0), some (.int l1)] [] h P := by
  refine sw_iload_n dX10_go_111 rfl ?_
  refine sw_cS (M := m_X10_go) dX10_go_112 ls_X10_175 hm2 rfl rfl (Nat.le_of_ble_eq_true rfl) (fun _ _ => rfl) rfl ?_
  show SW sc m_X10_go _ _ _ 115 [some (.ref r0), some (.int l1)] [.int v2] g2 P
  exact sw_if_eq dX10_go_115 (by decide) (fun q => (kt q)) (fun q => (sw_fg [false, true] rfl (kf q)))
theorem b_X10_go_118 {r0 : Nat} {fs3 : List Value} (hc3 : (h)[r0]? = some (10, fs3)) (hk3 : 18 < fs3.length) (k : SW sc m_X10_go d rc rs 123 [some (.ref r0), none] [] ((h).set r0 (10, fs3.set 18 (.int 0))) P) : SW sc m_X10_go d rc rs 118 [some (.ref r0), none] [] h P := by
  refine sw_aload_n dX10_go_118 rfl ?_
  refine sw_iconst (v := 0) dX10_go_119 (by decide) ?_
  refine sw_putf dX10_go_120 lp_X10_178 hc3 hk3 (fun _ _ => ⟨rfl, rfl⟩) ?_
  exact (k)
theorem b_X10_go_123 {r0 : Nat} {fs3 : List Value} {x3 : Int32} {v4 : Int32} {g4 : ab_H} {fs4 : List Value} {v5 : Int32} {g5 : ab_H} (hc3 : (h)[r0]? = some (10, fs3)) (hv3 : fs3[15]? = some (.int x3)) (hr4 : (h)[r0]? = some (10, fs4)) (hm4 : MSE m_X10_byteAt d [.ref r0, .int x3] h (some (.int v4)) g4) (hm5 : MSE m_X10_isDigit d [.int v4] g4 (some (.int v5)) g5) (kt : v5 = 0 → SW sc m_X10_go (d + 1) rc rs 187 [some (.ref r0), none] [] g5 P) (kf : ¬ (v5 = 0) → SW sc m_X10_go (d + 1) rc rs 137 [some (.ref r0), none] [] g5 P) : SW sc m_X10_go (d + 1) rc rs 123 [some (.ref r0), none] [] h P := by
  refine sw_aload_n dX10_go_123 rfl ?_
  refine sw_aload_n dX10_go_124 rfl ?_
  refine sw_getf dX10_go_125 lf_X10_160 hc3 hv3 ?_
  refine sw_cV (M := m_X10_go) dX10_go_128 lv_X10_163 hm4 hr4 rfl (by decide) rfl rfl rfl (Nat.le_of_ble_eq_true rfl) (fun _ _ => rfl) rfl ?_
  show SW sc m_X10_go _ _ _ 131 [some (.ref r0), none] [.int v4] g4 P
  refine sw_cS (M := m_X10_go) dX10_go_131 ls_X10_175 hm5 rfl rfl (Nat.le_of_ble_eq_true rfl) (fun _ _ => rfl) rfl ?_
  show SW sc m_X10_go _ _ _ 134 [some (.ref r0), none] [.int v5] g5 P
  exact sw_if_eq dX10_go_134 (by decide) (fun q => (kt q)) (fun q => (kf q))
theorem b_X10_go_137 {r0 : Nat} {fs2 : List Value} {x2 : Int32} {fs4 : List Value} {x4 : Int32} (hc2 : (h)[r0]? = some (10, fs2)) (hv2 : fs2[15]? = some (.int x2)) (hc4 : (h)[r0]? = some (10, fs4)) (hv4 : fs4[16]? = some (.int x4)) (kt : 2 ≤ (x2 - x4) → SW sc m_X10_go d rc rs 174 [some (.ref r0), none] [] h P) (kf : ¬ (2 ≤ (x2 - x4)) → SW sc m_X10_go d rc rs 150 [some (.ref r0), none] [] h P) : SW sc m_X10_go d rc rs 137 [some (.ref r0), none] [] h P := by
  refine sw_aload_n dX10_go_137 rfl ?_
  refine sw_getf dX10_go_138 lf_X10_160 hc2 hv2 ?_
  refine sw_aload_n dX10_go_141 rfl ?_
  refine sw_getf dX10_go_142 lf_X10_166 hc4 hv4 ?_
  refine sw_isub dX10_go_145 ?_
  refine sw_iconst (v := 2) dX10_go_146 (by decide) ?_
  exact sw_icmp_ge dX10_go_147 (by decide) (fun q => (kt q)) (fun q => (kf q))
theorem b_X10_go_150 {r0 : Nat} {fs4 : List Value} {x4 : Int32} {fs7 : List Value} {a7 : Nat} {fs9 : List Value} {x9 : Int32} {vs10 : List Value} {x10 : Int32} {fs14 : List Value} (hc4 : (h)[r0]? = some (10, fs4)) (hv4 : fs4[18]? = some (.int x4)) (hc7 : (h)[r0]? = some (10, fs7)) (hv7 : fs7[12]? = some (.ref a7)) (hc9 : (h)[r0]? = some (10, fs9)) (hv9 : fs9[15]? = some (.int x9)) (hc10 : (h)[a7]? = some (100, vs10)) (ho10 : ¬ x9 < 0) (hi10 : vs10[x9.toNatClampNeg]? = some (.int x10)) (hc14 : (h)[r0]? = some (10, fs14)) (hk14 : 18 < fs14.length) (k : SW sc m_X10_go d rc rs 174 [some (.ref r0), none] [] ((h).set r0 (10, fs14.set 18 (.int (((10 * x4) + x10) - 48)))) P) : SW sc m_X10_go d rc rs 150 [some (.ref r0), none] [] h P := by
  refine sw_aload_n dX10_go_150 rfl ?_
  refine sw_bipush (v := 10) dX10_go_151 (by decide) ?_
  refine sw_aload_n dX10_go_153 rfl ?_
  refine sw_getf dX10_go_154 lf_X10_178 hc4 hv4 ?_
  refine sw_imul dX10_go_157 ?_
  refine sw_aload_n dX10_go_158 rfl ?_
  refine sw_getf dX10_go_159 lf_X10_41 hc7 hv7 ?_
  refine sw_aload_n dX10_go_162 rfl ?_
  refine sw_getf dX10_go_163 lf_X10_160 hc9 hv9 ?_
  refine sw_iald dX10_go_166 hc10 ho10 hi10 ?_
  refine sw_iadd dX10_go_167 ?_
  refine sw_bipush (v := 48) dX10_go_168 (by decide) ?_
  refine sw_isub dX10_go_170 ?_
  refine sw_putf dX10_go_171 lp_X10_178 hc14 hk14 (fun _ _ => ⟨rfl, rfl⟩) ?_
  exact (k)
theorem b_X10_go_174 {r0 : Nat} {fs3 : List Value} {x3 : Int32} {fs6 : List Value} (hc3 : (h)[r0]? = some (10, fs3)) (hv3 : fs3[15]? = some (.int x3)) (hc6 : (h)[r0]? = some (10, fs6)) (hk6 : 15 < fs6.length) (k : SW sc m_X10_go d rc rs 123 [some (.ref r0), none] [] ((h).set r0 (10, fs6.set 15 (.int (x3 + 1)))) P) : SW sc m_X10_go d rc rs 174 [some (.ref r0), none] [] h P := by
  refine sw_aload_n dX10_go_174 rfl ?_
  refine sw_dup dX10_go_175 (fun _ _ => rfl) ?_
  refine sw_getf dX10_go_176 lf_X10_160 hc3 hv3 ?_
  refine sw_iconst (v := 1) dX10_go_179 (by decide) ?_
  refine sw_iadd dX10_go_180 ?_
  refine sw_putf dX10_go_181 lp_X10_160 hc6 hk6 (fun _ _ => ⟨rfl, rfl⟩) ?_
  exact sw_goto dX10_go_184 (by decide) (k)
theorem b_X10_go_187 {r0 : Nat} {fs3 : List Value} {x3 : Int32} {fs5 : List Value} {x5 : Int32} (hc3 : (h)[r0]? = some (10, fs3)) (hv3 : fs3[15]? = some (.int x3)) (hc5 : (h)[r0]? = some (10, fs5)) (hv5 : fs5[16]? = some (.int x5)) (kt : (x3 - x5) ≤ 2 → SW sc m_X10_go d rc rs 205 [none, none] [.ref r0] h P) (kf : ¬ ((x3 - x5) ≤ 2) → SW sc m_X10_go d rc rs 201 [none, none] [.ref r0] h P) : SW sc m_X10_go d rc rs 187 [some (.ref r0), none] [] h P := by
  refine sw_aload_n dX10_go_187 rfl ?_
  refine sw_aload_n dX10_go_188 rfl ?_
  refine sw_getf dX10_go_189 lf_X10_160 hc3 hv3 ?_
  refine sw_aload_n dX10_go_192 rfl ?_
  refine sw_getf dX10_go_193 lf_X10_166 hc5 hv5 ?_
  refine sw_isub dX10_go_196 ?_
  refine sw_iconst (v := 2) dX10_go_197 (by decide) ?_
  exact sw_icmp_le dX10_go_198 (by decide) (fun q => (sw_fg [true, false] rfl (kt q))) (fun q => (sw_fg [true, false] rfl (kf q)))
theorem b_X10_go_201 {q0 : Nat} (k : SW sc m_X10_go d rc rs 206 [none, none] [.int 1, .ref q0] h P) : SW sc m_X10_go d rc rs 201 [none, none] [.ref q0] h P := by
  refine sw_iconst (v := 1) dX10_go_201 (by decide) ?_
  exact sw_goto dX10_go_202 (by decide) (k)
theorem b_X10_go_205 {q0 : Nat} (k : SW sc m_X10_go d rc rs 206 [none, none] [.int 3, .ref q0] h P) : SW sc m_X10_go d rc rs 205 [none, none] [.ref q0] h P := by
  refine sw_iconst (v := 3) dX10_go_205 (by decide) ?_
  exact (k)
theorem b_X10_go_206 {q0 : Nat} {s1 : Int32} {fs1 : List Value} (hc1 : (h)[q0]? = some (10, fs1)) (hk1 : 17 < fs1.length) (k : SW sc m_X10_go d rc rs 237 [none, none] [] ((h).set q0 (10, fs1.set 17 (.int s1))) P) : SW sc m_X10_go d rc rs 206 [none, none] [.int s1, .ref q0] h P := by
  refine sw_putf dX10_go_206 lp_X10_169 hc1 hk1 (fun _ _ => ⟨rfl, rfl⟩) ?_
  exact sw_goto dX10_go_209 (by decide) (k)
theorem b_X10_go_212 {r0 : Nat} {l1 : Int32} {fs3 : List Value} {x3 : Int32} {fs6 : List Value} (hc3 : (h)[r0]? = some (10, fs3)) (hv3 : fs3[15]? = some (.int x3)) (hc6 : (h)[r0]? = some (10, fs6)) (hk6 : 15 < fs6.length) (kt : ¬ l1 = 59 → SW sc m_X10_go d rc rs 233 [none, none] [.ref r0] ((h).set r0 (10, fs6.set 15 (.int (x3 + 1)))) P) (kf : l1 = 59 → SW sc m_X10_go d rc rs 229 [none, none] [.ref r0] ((h).set r0 (10, fs6.set 15 (.int (x3 + 1)))) P) : SW sc m_X10_go d rc rs 212 [some (.ref r0), some (.int l1)] [] h P := by
  refine sw_aload_n dX10_go_212 rfl ?_
  refine sw_dup dX10_go_213 (fun _ _ => rfl) ?_
  refine sw_getf dX10_go_214 lf_X10_160 hc3 hv3 ?_
  refine sw_iconst (v := 1) dX10_go_217 (by decide) ?_
  refine sw_iadd dX10_go_218 ?_
  refine sw_putf dX10_go_219 lp_X10_160 hc6 hk6 (fun _ _ => ⟨rfl, rfl⟩) ?_
  refine sw_aload_n dX10_go_222 rfl ?_
  refine sw_iload_n dX10_go_223 rfl ?_
  refine sw_bipush (v := 59) dX10_go_224 (by decide) ?_
  exact sw_icmp_ne dX10_go_226 (by decide) (fun q => (sw_fg [true, true] rfl (kt q))) (fun q => (sw_fg [true, true] rfl (kf q)))
theorem b_X10_go_229 {q0 : Nat} (k : SW sc m_X10_go d rc rs 234 [none, none] [.int 4, .ref q0] h P) : SW sc m_X10_go d rc rs 229 [none, none] [.ref q0] h P := by
  refine sw_iconst (v := 4) dX10_go_229 (by decide) ?_
  exact sw_goto dX10_go_230 (by decide) (k)
theorem b_X10_go_233 {q0 : Nat} (k : SW sc m_X10_go d rc rs 234 [none, none] [.int 1, .ref q0] h P) : SW sc m_X10_go d rc rs 233 [none, none] [.ref q0] h P := by
  refine sw_iconst (v := 1) dX10_go_233 (by decide) ?_
  exact (k)
theorem b_X10_go_234 {q0 : Nat} {s1 : Int32} {fs1 : List Value} (hc1 : (h)[q0]? = some (10, fs1)) (hk1 : 17 < fs1.length) (k : SW sc m_X10_go d rc rs 237 [none, none] [] ((h).set q0 (10, fs1.set 17 (.int s1))) P) : SW sc m_X10_go d rc rs 234 [none, none] [.int s1, .ref q0] h P := by
  refine sw_putf dX10_go_234 lp_X10_169 hc1 hk1 (fun _ _ => ⟨rfl, rfl⟩) ?_
  exact (k)
theorem b_X10_go_237  (hP : P (.inl none) h) : SW sc m_X10_go d rc rs 237 [none, none] [] h P := by
  exact sw_ret (v := none) dX10_go_237 rt_v hP
theorem b_X10_isWord_0 {r0 : Nat} {t1 : Nat} {fs2 : List Value} {x2 : Int32} (hc2 : (h)[r0]? = some (10, fs2)) (hv2 : fs2[17]? = some (.int x2)) (kt : ¬ x2 = 2 → SW sc m_X10_isWord d rc rs 24 [none, none, none] [] h P) (kf : x2 = 2 → SW sc m_X10_isWord d rc rs 8 [some (.ref r0), some (.retAddr t1), none] [] h P) : SW sc m_X10_isWord d rc rs 0 [some (.ref r0), some (.retAddr t1), none] [] h P := by
  refine sw_aload_n dX10_isWord_0 rfl ?_
  refine sw_getf dX10_isWord_1 lf_X10_169 hc2 hv2 ?_
  refine sw_iconst (v := 2) dX10_isWord_4 (by decide) ?_
  exact sw_icmp_ne dX10_isWord_5 (by decide) (fun q => (sw_fg [true, true, false] rfl (kt q))) (fun q => (kf q))
theorem b_X10_isWord_8 {r0 : Nat} {t1 : Nat} {fs2 : List Value} {x2 : Int32} {fs4 : List Value} {x4 : Int32} {v7 : Int32} {g7 : ab_H} (hc2 : (h)[r0]? = some (10, fs2)) (hv2 : fs2[15]? = some (.int x2)) (hc4 : (h)[r0]? = some (10, fs4)) (hv4 : fs4[16]? = some (.int x4)) (ht6 : t1 < 6) (ht7 : t1 < 6) (hm7 : MSE m_J0_length_8abf5 d [.retAddr t1] h (some (.int v7)) g7) (kt : (x2 - x4) = v7 → SW sc m_X10_isWord (d + 1) rc rs 26 [some (.ref r0), some (.retAddr t1), none] [] g7 P) (kf : ¬ ((x2 - x4) = v7) → SW sc m_X10_isWord (d + 1) rc rs 24 [none, none, none] [] g7 P) : SW sc m_X10_isWord (d + 1) rc rs 8 [some (.ref r0), some (.retAddr t1), none] [] h P := by
  refine sw_aload_n dX10_isWord_8 rfl ?_
  refine sw_getf dX10_isWord_9 lf_X10_160 hc2 hv2 ?_
  refine sw_aload_n dX10_isWord_12 rfl ?_
  refine sw_getf dX10_isWord_13 lf_X10_166 hc4 hv4 ?_
  refine sw_isub dX10_isWord_16 ?_
  refine sw_aload_nt dX10_isWord_17 rfl (Or.inl ht6) ?_
  refine sw_cT (M := m_X10_isWord) dX10_isWord_18 lv_X10_181 rfl ht7 hm7 rfl rfl (Nat.le_of_ble_eq_true rfl) (fun _ _ => rfl) (fun σ τ v hv => by simp at hv) ?_
  show SW sc m_X10_isWord _ _ _ 21 [some (.ref r0), some (.retAddr t1), none] [.int v7, .int (x2 - x4)] g7 P
  exact sw_icmp_eq dX10_isWord_21 (by decide) (fun q => (kt q)) (fun q => (sw_fg [true, true, false] rfl (kf q)))
theorem b_X10_isWord_24  (hP : P (.inl (some (.int 0))) h) : SW sc m_X10_isWord d rc rs 24 [none, none, none] [] h P := by
  refine sw_iconst (v := 0) dX10_isWord_24 (by decide) ?_
  exact sw_ret (v := (some (.int 0))) dX10_isWord_25 (rt_n (by decide)) hP
theorem b_X10_isWord_26 {r0 : Nat} {t1 : Nat} (ht0 : t1 < 6) (k : SW sc m_X10_isWord d rc rs 28 [some (.ref r0), some (.retAddr t1), some (.int 0)] [] h P) : SW sc m_X10_isWord d rc rs 26 [some (.ref r0), some (.retAddr t1), none] [] h P := by
  refine sw_iconst (v := 0) dX10_isWord_26 (by decide) ?_
  refine sw_istore_nt (M := m_X10_isWord) dX10_isWord_27 (by decide) rfl rfl ht0 ?_
  show SW sc m_X10_isWord _ _ _ 28 [some (.ref r0), some (.retAddr t1), some (.int 0)] [] h P
  exact (k)
theorem b_X10_isWord_28 {r0 : Nat} {t1 : Nat} {l2 : Int32} {v3 : Int32} {g3 : ab_H} (ht2 : t1 < 6) (ht3 : t1 < 6) (hm3 : MSE m_J0_length_8abf5 d [.retAddr t1] h (some (.int v3)) g3) (kt : v3 ≤ l2 → SW sc m_X10_isWord (d + 1) rc rs 63 [none, none, none] [] g3 P) (kf : ¬ (v3 ≤ l2) → SW sc m_X10_isWord (d + 1) rc rs 36 [some (.ref r0), some (.retAddr t1), some (.int l2)] [] g3 P) : SW sc m_X10_isWord (d + 1) rc rs 28 [some (.ref r0), some (.retAddr t1), some (.int l2)] [] h P := by
  refine sw_iload_n dX10_isWord_28 rfl ?_
  refine sw_aload_nt dX10_isWord_29 rfl (Or.inl ht2) ?_
  refine sw_cT (M := m_X10_isWord) dX10_isWord_30 lv_X10_181 rfl ht3 hm3 rfl rfl (Nat.le_of_ble_eq_true rfl) (fun _ _ => rfl) (fun σ τ v hv => by simp at hv) ?_
  show SW sc m_X10_isWord _ _ _ 33 [some (.ref r0), some (.retAddr t1), some (.int l2)] [.int v3, .int l2] g3 P
  exact sw_icmp_ge dX10_isWord_33 (by decide) (fun q => (sw_fg [true, true, true] rfl (kt q))) (fun q => (kf q))
theorem b_X10_isWord_36 {r0 : Nat} {t1 : Nat} {l2 : Int32} {fs2 : List Value} {a2 : Nat} {fs4 : List Value} {x4 : Int32} {vs7 : List Value} {x7 : Int32} {v10 : Int32} {g10 : ab_H} (hc2 : (h)[r0]? = some (10, fs2)) (hv2 : fs2[12]? = some (.ref a2)) (hc4 : (h)[r0]? = some (10, fs4)) (hv4 : fs4[16]? = some (.int x4)) (hc7 : (h)[a2]? = some (100, vs7)) (ho7 : ¬ (x4 + l2) < 0) (hi7 : vs7[(x4 + l2).toNatClampNeg]? = some (.int x7)) (ht8 : t1 < 6) (ht10 : t1 < 6) (hm10 : MSE m_J0_charAt_5068e d [.retAddr t1, .int l2] h (some (.int v10)) g10) (kt : x7 = v10 → SW sc m_X10_isWord (d + 1) rc rs 57 [some (.ref r0), some (.retAddr t1), some (.int l2)] [] g10 P) (kf : ¬ (x7 = v10) → SW sc m_X10_isWord (d + 1) rc rs 55 [none, none, none] [] g10 P) : SW sc m_X10_isWord (d + 1) rc rs 36 [some (.ref r0), some (.retAddr t1), some (.int l2)] [] h P := by
  refine sw_aload_n dX10_isWord_36 rfl ?_
  refine sw_getf dX10_isWord_37 lf_X10_41 hc2 hv2 ?_
  refine sw_aload_n dX10_isWord_40 rfl ?_
  refine sw_getf dX10_isWord_41 lf_X10_166 hc4 hv4 ?_
  refine sw_iload_n dX10_isWord_44 rfl ?_
  refine sw_iadd dX10_isWord_45 ?_
  refine sw_iald dX10_isWord_46 hc7 ho7 hi7 ?_
  refine sw_aload_nt dX10_isWord_47 rfl (Or.inl ht8) ?_
  refine sw_iload_n dX10_isWord_48 rfl ?_
  refine sw_cT (M := m_X10_isWord) dX10_isWord_49 lv_X10_186 rfl ht10 hm10 rfl rfl (Nat.le_of_ble_eq_true rfl) (fun _ _ => rfl) (fun σ τ v hv => by rw [List.mem_singleton.mp hv]; rfl) ?_
  show SW sc m_X10_isWord _ _ _ 52 [some (.ref r0), some (.retAddr t1), some (.int l2)] [.int v10, .int x7] g10 P
  exact sw_icmp_eq dX10_isWord_52 (by decide) (fun q => (kt q)) (fun q => (sw_fg [true, true, true] rfl (kf q)))
theorem b_X10_isWord_55  (hP : P (.inl (some (.int 0))) h) : SW sc m_X10_isWord d rc rs 55 [none, none, none] [] h P := by
  refine sw_iconst (v := 0) dX10_isWord_55 (by decide) ?_
  exact sw_ret (v := (some (.int 0))) dX10_isWord_56 (rt_n (by decide)) hP
theorem b_X10_isWord_57 {r0 : Nat} {t1 : Nat} {l2 : Int32} (ht0 : t1 < 6) (k : SW sc m_X10_isWord d rc rs 28 [some (.ref r0), some (.retAddr t1), some (.int (l2 + 1))] [] h P) : SW sc m_X10_isWord d rc rs 57 [some (.ref r0), some (.retAddr t1), some (.int l2)] [] h P := by
  refine sw_iinct (M := m_X10_isWord) (v := l2 + 1) dX10_isWord_57 rfl rfl (by decide) rfl rfl ht0 ?_
  show SW sc m_X10_isWord _ _ _ 60 [some (.ref r0), some (.retAddr t1), some (.int (l2 + 1))] [] h P
  exact sw_goto dX10_isWord_60 (by decide) (k)
theorem b_X10_isWord_63  (hP : P (.inl (some (.int 1))) h) : SW sc m_X10_isWord d rc rs 63 [none, none, none] [] h P := by
  refine sw_iconst (v := 1) dX10_isWord_63 (by decide) ?_
  exact sw_ret (v := (some (.int 1))) dX10_isWord_64 (rt_n (by decide)) hP
theorem b_X10_bad_0 {r0 : Nat} {l1 : Int32} {fs3 : List Value} {fs6 : List Value} {x6 : Int32} {fs7 : List Value} (hc3 : (h)[r0]? = some (10, fs3)) (hk3 : 19 < fs3.length) (hc6 : ((h).set r0 (10, fs3.set 19 (.int l1)))[r0]? = some (10, fs6)) (hv6 : fs6[16]? = some (.int x6)) (hc7 : ((h).set r0 (10, fs3.set 19 (.int l1)))[r0]? = some (10, fs7)) (hk7 : 20 < fs7.length) (hP : P (.inl (some (.int 0))) (((h).set r0 (10, fs3.set 19 (.int l1))).set r0 (10, fs7.set 20 (.int x6)))) : SW sc m_X10_bad d rc rs 0 [some (.ref r0), some (.int l1)] [] h P := by
  refine sw_aload_n dX10_bad_0 rfl ?_
  refine sw_iload_n dX10_bad_1 rfl ?_
  refine sw_putf dX10_bad_2 lp_X10_190 hc3 hk3 (fun _ _ => ⟨rfl, rfl⟩) ?_
  refine sw_aload_n dX10_bad_5 rfl ?_
  refine sw_aload_n dX10_bad_6 rfl ?_
  refine sw_getf dX10_bad_7 lf_X10_166 hc6 hv6 ?_
  refine sw_putf dX10_bad_10 lp_X10_193 hc7 hk7 (fun _ _ => ⟨rfl, rfl⟩) ?_
  refine sw_iconst (v := 0) dX10_bad_13 (by decide) ?_
  exact sw_ret (v := (some (.int 0))) dX10_bad_14 (rt_n (by decide)) hP
theorem b_X10_reads_0 {r0 : Nat} {l1 : Int32} {l2 : Int32} {fs2 : List Value} {x2 : Int32} (hc2 : (h)[r0]? = some (10, fs2)) (hv2 : fs2[17]? = some (.int x2)) (kt : x2 = 3 → SW sc m_X10_reads d rc rs 14 [some (.ref r0), some (.int l1), some (.int l2)] [] h P) (kf : ¬ (x2 = 3) → SW sc m_X10_reads d rc rs 8 [some (.ref r0), none, none] [] h P) : SW sc m_X10_reads d rc rs 0 [some (.ref r0), some (.int l1), some (.int l2)] [] h P := by
  refine sw_aload_n dX10_reads_0 rfl ?_
  refine sw_getf dX10_reads_1 lf_X10_169 hc2 hv2 ?_
  refine sw_iconst (v := 3) dX10_reads_4 (by decide) ?_
  exact sw_icmp_eq dX10_reads_5 (by decide) (fun q => (kt q)) (fun q => (sw_fg [false, true, true] rfl (kf q)))
theorem b_X10_reads_8 {r0 : Nat} {v3 : Int32} {g3 : ab_H} {fs3 : List Value} (hr3 : (h)[r0]? = some (10, fs3)) (hm3 : MSE m_X10_bad d [.ref r0, .int 1] h (some (.int v3)) g3) (hz4 : narrow .boolean (.int v3) = .int v3) (hP : P (.inl (some (.int v3))) g3) : SW sc m_X10_reads (d + 1) rc rs 8 [some (.ref r0), none, none] [] h P := by
  refine sw_aload_n dX10_reads_8 rfl ?_
  refine sw_iconst (v := 1) dX10_reads_9 (by decide) ?_
  refine sw_cV (M := m_X10_reads) dX10_reads_10 lv_X10_196 hm3 hr3 rfl (by decide) rfl rfl rfl (Nat.le_of_ble_eq_true rfl) (fun _ _ => rfl) rfl ?_
  show SW sc m_X10_reads _ _ _ 13 [some (.ref r0), none, none] [.int v3] g3 P
  exact sw_ret (v := (some (.int v3))) dX10_reads_13 (rt_n hz4) hP
theorem b_X10_reads_14 {r0 : Nat} {l1 : Int32} {l2 : Int32} {fs2 : List Value} {x2 : Int32} {v5 : Int32} {g5 : ab_H} (hc2 : (h)[r0]? = some (10, fs2)) (hv2 : fs2[18]? = some (.int x2)) (hm5 : MSE m_X10_isIn d [.int x2, .int l1, .int l2] h (some (.int v5)) g5) (kt : ¬ v5 = 0 → SW sc m_X10_reads (d + 1) rc rs 32 [some (.ref r0), none, none] [] g5 P) (kf : v5 = 0 → SW sc m_X10_reads (d + 1) rc rs 26 [some (.ref r0), none, none] [] g5 P) : SW sc m_X10_reads (d + 1) rc rs 14 [some (.ref r0), some (.int l1), some (.int l2)] [] h P := by
  refine sw_aload_n dX10_reads_14 rfl ?_
  refine sw_getf dX10_reads_15 lf_X10_178 hc2 hv2 ?_
  refine sw_iload_n dX10_reads_18 rfl ?_
  refine sw_iload_n dX10_reads_19 rfl ?_
  refine sw_cS (M := m_X10_reads) dX10_reads_20 ls_X10_153 hm5 rfl rfl (Nat.le_of_ble_eq_true rfl) (fun _ _ => rfl) rfl ?_
  show SW sc m_X10_reads _ _ _ 23 [some (.ref r0), some (.int l1), some (.int l2)] [.int v5] g5 P
  exact sw_if_ne dX10_reads_23 (by decide) (fun q => (sw_fg [false, true, true] rfl (kt q))) (fun q => (sw_fg [false, true, true] rfl (kf q)))
theorem b_X10_reads_26 {r0 : Nat} {v3 : Int32} {g3 : ab_H} {fs3 : List Value} (hr3 : (h)[r0]? = some (10, fs3)) (hm3 : MSE m_X10_bad d [.ref r0, .int 2] h (some (.int v3)) g3) (hz4 : narrow .boolean (.int v3) = .int v3) (hP : P (.inl (some (.int v3))) g3) : SW sc m_X10_reads (d + 1) rc rs 26 [some (.ref r0), none, none] [] h P := by
  refine sw_aload_n dX10_reads_26 rfl ?_
  refine sw_iconst (v := 2) dX10_reads_27 (by decide) ?_
  refine sw_cV (M := m_X10_reads) dX10_reads_28 lv_X10_196 hm3 hr3 rfl (by decide) rfl rfl rfl (Nat.le_of_ble_eq_true rfl) (fun _ _ => rfl) rfl ?_
  show SW sc m_X10_reads _ _ _ 31 [some (.ref r0), none, none] [.int v3] g3 P
  exact sw_ret (v := (some (.int v3))) dX10_reads_31 (rt_n hz4) hP
theorem b_X10_reads_32 {r0 : Nat} {fs3 : List Value} {x3 : Int32} {fs4 : List Value} {g6 : ab_H} {fs6 : List Value} (hc3 : (h)[r0]? = some (10, fs3)) (hv3 : fs3[18]? = some (.int x3)) (hc4 : (h)[r0]? = some (10, fs4)) (hk4 : 21 < fs4.length) (hr6 : ((h).set r0 (10, fs4.set 21 (.int x3)))[r0]? = some (10, fs6)) (hm6 : MSE m_X10_go d [.ref r0] ((h).set r0 (10, fs4.set 21 (.int x3))) none g6) (hP : P (.inl (some (.int 1))) g6) : SW sc m_X10_reads (d + 1) rc rs 32 [some (.ref r0), none, none] [] h P := by
  refine sw_aload_n dX10_reads_32 rfl ?_
  refine sw_aload_n dX10_reads_33 rfl ?_
  refine sw_getf dX10_reads_34 lf_X10_178 hc3 hv3 ?_
  refine sw_putf dX10_reads_37 lp_X10_199 hc4 hk4 (fun _ _ => ⟨rfl, rfl⟩) ?_
  refine sw_aload_n dX10_reads_40 rfl ?_
  refine sw_cV (M := m_X10_reads) dX10_reads_41 lv_X10_202 hm6 hr6 rfl (by decide) rfl rfl rfl (Nat.le_of_ble_eq_true rfl) (fun _ _ => rfl) rfl ?_
  show SW sc m_X10_reads _ _ _ 44 [some (.ref r0), none, none] [] g6 P
  refine sw_iconst (v := 1) dX10_reads_44 (by decide) ?_
  exact sw_ret (v := (some (.int 1))) dX10_reads_45 (rt_n (by decide)) hP
theorem b_X10_readsEnd_0 {r0 : Nat} {l1 : Int32} {fs2 : List Value} {x2 : Int32} (hc2 : (h)[r0]? = some (10, fs2)) (hv2 : fs2[17]? = some (.int x2)) (kt : x2 = 3 → SW sc m_X10_readsEnd d rc rs 14 [some (.ref r0), some (.int l1)] [] h P) (kf : ¬ (x2 = 3) → SW sc m_X10_readsEnd d rc rs 8 [some (.ref r0), none] [] h P) : SW sc m_X10_readsEnd d rc rs 0 [some (.ref r0), some (.int l1)] [] h P := by
  refine sw_aload_n dX10_readsEnd_0 rfl ?_
  refine sw_getf dX10_readsEnd_1 lf_X10_169 hc2 hv2 ?_
  refine sw_iconst (v := 3) dX10_readsEnd_4 (by decide) ?_
  exact sw_icmp_eq dX10_readsEnd_5 (by decide) (fun q => (kt q)) (fun q => (sw_fg [false, true] rfl (kf q)))
theorem b_X10_readsEnd_8 {r0 : Nat} {v3 : Int32} {g3 : ab_H} {fs3 : List Value} (hr3 : (h)[r0]? = some (10, fs3)) (hm3 : MSE m_X10_bad d [.ref r0, .int 1] h (some (.int v3)) g3) (hz4 : narrow .boolean (.int v3) = .int v3) (hP : P (.inl (some (.int v3))) g3) : SW sc m_X10_readsEnd (d + 1) rc rs 8 [some (.ref r0), none] [] h P := by
  refine sw_aload_n dX10_readsEnd_8 rfl ?_
  refine sw_iconst (v := 1) dX10_readsEnd_9 (by decide) ?_
  refine sw_cV (M := m_X10_readsEnd) dX10_readsEnd_10 lv_X10_196 hm3 hr3 rfl (by decide) rfl rfl rfl (Nat.le_of_ble_eq_true rfl) (fun _ _ => rfl) rfl ?_
  show SW sc m_X10_readsEnd _ _ _ 13 [some (.ref r0), none] [.int v3] g3 P
  exact sw_ret (v := (some (.int v3))) dX10_readsEnd_13 (rt_n hz4) hP
theorem b_X10_readsEnd_14 {r0 : Nat} {l1 : Int32} {fs2 : List Value} {x2 : Int32} {fs4 : List Value} {x4 : Int32} (hc2 : (h)[r0]? = some (10, fs2)) (hv2 : fs2[18]? = some (.int x2)) (hc4 : (h)[r0]? = some (10, fs4)) (hv4 : fs4[10]? = some (.int x4)) (kt : x2 < x4 → SW sc m_X10_readsEnd d rc rs 31 [some (.ref r0), some (.int l1)] [] h P) (kf : ¬ (x2 < x4) → SW sc m_X10_readsEnd d rc rs 25 [some (.ref r0), none] [] h P) : SW sc m_X10_readsEnd d rc rs 14 [some (.ref r0), some (.int l1)] [] h P := by
  refine sw_aload_n dX10_readsEnd_14 rfl ?_
  refine sw_getf dX10_readsEnd_15 lf_X10_178 hc2 hv2 ?_
  refine sw_aload_n dX10_readsEnd_18 rfl ?_
  refine sw_getf dX10_readsEnd_19 lf_X10_60 hc4 hv4 ?_
  exact sw_icmp_lt dX10_readsEnd_22 (by decide) (fun q => (kt q)) (fun q => (sw_fg [false, true] rfl (kf q)))
theorem b_X10_readsEnd_25 {r0 : Nat} {v3 : Int32} {g3 : ab_H} {fs3 : List Value} (hr3 : (h)[r0]? = some (10, fs3)) (hm3 : MSE m_X10_bad d [.ref r0, .int 2] h (some (.int v3)) g3) (hz4 : narrow .boolean (.int v3) = .int v3) (hP : P (.inl (some (.int v3))) g3) : SW sc m_X10_readsEnd (d + 1) rc rs 25 [some (.ref r0), none] [] h P := by
  refine sw_aload_n dX10_readsEnd_25 rfl ?_
  refine sw_iconst (v := 2) dX10_readsEnd_26 (by decide) ?_
  refine sw_cV (M := m_X10_readsEnd) dX10_readsEnd_27 lv_X10_196 hm3 hr3 rfl (by decide) rfl rfl rfl (Nat.le_of_ble_eq_true rfl) (fun _ _ => rfl) rfl ?_
  show SW sc m_X10_readsEnd _ _ _ 30 [some (.ref r0), none] [.int v3] g3 P
  exact sw_ret (v := (some (.int v3))) dX10_readsEnd_30 (rt_n hz4) hP
theorem b_X10_readsEnd_31 {r0 : Nat} {l1 : Int32} {v3 : Int32} {g3 : ab_H} {fs3 : List Value} {fs5 : List Value} {x5 : Int32} {v6 : Int32} {g6 : ab_H} (hr3 : (h)[r0]? = some (10, fs3)) (hm3 : MSE m_X10_component d [.ref r0, .int l1] h (some (.int v3)) g3) (hc5 : (g3)[r0]? = some (10, fs5)) (hv5 : fs5[18]? = some (.int x5)) (hm6 : MSE m_X10_has d [.int v3, .int x5] g3 (some (.int v6)) g6) (kt : v6 = 0 → SW sc m_X10_readsEnd (d + 1) rc rs 52 [some (.ref r0), some (.int l1)] [] g6 P) (kf : ¬ (v6 = 0) → SW sc m_X10_readsEnd (d + 1) rc rs 46 [some (.ref r0), none] [] g6 P) : SW sc m_X10_readsEnd (d + 1) rc rs 31 [some (.ref r0), some (.int l1)] [] h P := by
  refine sw_aload_n dX10_readsEnd_31 rfl ?_
  refine sw_iload_n dX10_readsEnd_32 rfl ?_
  refine sw_cV (M := m_X10_readsEnd) dX10_readsEnd_33 lv_X10_84 hm3 hr3 rfl (by decide) rfl rfl rfl (Nat.le_of_ble_eq_true rfl) (fun _ _ => rfl) rfl ?_
  show SW sc m_X10_readsEnd _ _ _ 36 [some (.ref r0), some (.int l1)] [.int v3] g3 P
  refine sw_aload_n dX10_readsEnd_36 rfl ?_
  refine sw_getf dX10_readsEnd_37 lf_X10_178 hc5 hv5 ?_
  refine sw_cS (M := m_X10_readsEnd) dX10_readsEnd_40 ls_X10_70 hm6 rfl rfl (Nat.le_of_ble_eq_true rfl) (fun _ _ => rfl) rfl ?_
  show SW sc m_X10_readsEnd _ _ _ 43 [some (.ref r0), some (.int l1)] [.int v6] g6 P
  exact sw_if_eq dX10_readsEnd_43 (by decide) (fun q => (kt q)) (fun q => (sw_fg [false, true] rfl (kf q)))
theorem b_X10_readsEnd_46 {r0 : Nat} {v3 : Int32} {g3 : ab_H} {fs3 : List Value} (hr3 : (h)[r0]? = some (10, fs3)) (hm3 : MSE m_X10_bad d [.ref r0, .int 3] h (some (.int v3)) g3) (hz4 : narrow .boolean (.int v3) = .int v3) (hP : P (.inl (some (.int v3))) g3) : SW sc m_X10_readsEnd (d + 1) rc rs 46 [some (.ref r0), none] [] h P := by
  refine sw_aload_n dX10_readsEnd_46 rfl ?_
  refine sw_iconst (v := 3) dX10_readsEnd_47 (by decide) ?_
  refine sw_cV (M := m_X10_readsEnd) dX10_readsEnd_48 lv_X10_196 hm3 hr3 rfl (by decide) rfl rfl rfl (Nat.le_of_ble_eq_true rfl) (fun _ _ => rfl) rfl ?_
  show SW sc m_X10_readsEnd _ _ _ 51 [some (.ref r0), none] [.int v3] g3 P
  exact sw_ret (v := (some (.int v3))) dX10_readsEnd_51 (rt_n hz4) hP
theorem b_X10_readsEnd_52 {r0 : Nat} {l1 : Int32} {fs2 : List Value} {a2 : Nat} {fs5 : List Value} {x5 : Int32} {g6 : ab_H} {fs9 : List Value} {x9 : Int32} {fs10 : List Value} {g12 : ab_H} {fs12 : List Value} (hc2 : (h)[r0]? = some (10, fs2)) (hv2 : fs2[2]? = some (.ref a2)) (hc5 : (h)[r0]? = some (10, fs5)) (hv5 : fs5[18]? = some (.int x5)) (hm6 : MSE m_X10_joins d [.ref a2, .int l1, .int x5] h none g6) (hc9 : (g6)[r0]? = some (10, fs9)) (hv9 : fs9[18]? = some (.int x9)) (hc10 : (g6)[r0]? = some (10, fs10)) (hk10 : 21 < fs10.length) (hr12 : ((g6).set r0 (10, fs10.set 21 (.int x9)))[r0]? = some (10, fs12)) (hm12 : MSE m_X10_go d [.ref r0] ((g6).set r0 (10, fs10.set 21 (.int x9))) none g12) (hP : P (.inl (some (.int 1))) g12) : SW sc m_X10_readsEnd (d + 1) rc rs 52 [some (.ref r0), some (.int l1)] [] h P := by
  refine sw_aload_n dX10_readsEnd_52 rfl ?_
  refine sw_getf dX10_readsEnd_53 lf_X10_23 hc2 hv2 ?_
  refine sw_iload_n dX10_readsEnd_56 rfl ?_
  refine sw_aload_n dX10_readsEnd_57 rfl ?_
  refine sw_getf dX10_readsEnd_58 lf_X10_178 hc5 hv5 ?_
  refine sw_cS (M := m_X10_readsEnd) dX10_readsEnd_61 ls_X10_205 hm6 rfl rfl (Nat.le_of_ble_eq_true rfl) (fun _ _ => rfl) rfl ?_
  show SW sc m_X10_readsEnd _ _ _ 64 [some (.ref r0), some (.int l1)] [] g6 P
  refine sw_aload_n dX10_readsEnd_64 rfl ?_
  refine sw_aload_n dX10_readsEnd_65 rfl ?_
  refine sw_getf dX10_readsEnd_66 lf_X10_178 hc9 hv9 ?_
  refine sw_putf dX10_readsEnd_69 lp_X10_199 hc10 hk10 (fun _ _ => ⟨rfl, rfl⟩) ?_
  refine sw_aload_n dX10_readsEnd_72 rfl ?_
  refine sw_cV (M := m_X10_readsEnd) dX10_readsEnd_73 lv_X10_202 hm12 hr12 rfl (by decide) rfl rfl rfl (Nat.le_of_ble_eq_true rfl) (fun _ _ => rfl) rfl ?_
  show SW sc m_X10_readsEnd _ _ _ 76 [some (.ref r0), some (.int l1)] [] g12 P
  refine sw_iconst (v := 1) dX10_readsEnd_76 (by decide) ?_
  exact sw_ret (v := (some (.int 1))) dX10_readsEnd_77 (rt_n (by decide)) hP
theorem b_X10_readsEdges_0 {r0 : Nat} {l1 : Int32} {l2 : Int32} {g2 : ab_H} {fs2 : List Value} {fs6 : List Value} {x6 : Int32} {v9 : Int32} {g9 : ab_H} {fs9 : List Value} (hr2 : (h)[r0]? = some (10, fs2)) (hm2 : MSE m_X10_go d [.ref r0] h none g2) (hc6 : (g2)[r0]? = some (10, fs6)) (hv6 : fs6[10]? = some (.int x6)) (hr9 : (g2)[r0]? = some (10, fs9)) (hm9 : MSE m_X10_reads d [.ref r0, .int 0, .int (x6 - 1)] g2 (some (.int v9)) g9) (kt : ¬ v9 = 0 → SW sc m_X10_readsEdges (d + 1) rc rs 20 [some (.ref r0), some (.int l1), some (.int l2), none] [] g9 P) (kf : v9 = 0 → SW sc m_X10_readsEdges (d + 1) rc rs 18 [none, none, none, none] [] g9 P) : SW sc m_X10_readsEdges (d + 1) rc rs 0 [some (.ref r0), some (.int l1), some (.int l2), none] [] h P := by
  refine sw_aload_n dX10_readsEdges_0 rfl ?_
  refine sw_cV (M := m_X10_readsEdges) dX10_readsEdges_1 lv_X10_202 hm2 hr2 rfl (by decide) rfl rfl rfl (Nat.le_of_ble_eq_true rfl) (fun _ _ => rfl) rfl ?_
  show SW sc m_X10_readsEdges _ _ _ 4 [some (.ref r0), some (.int l1), some (.int l2), none] [] g2 P
  refine sw_aload_n dX10_readsEdges_4 rfl ?_
  refine sw_iconst (v := 0) dX10_readsEdges_5 (by decide) ?_
  refine sw_aload_n dX10_readsEdges_6 rfl ?_
  refine sw_getf dX10_readsEdges_7 lf_X10_60 hc6 hv6 ?_
  refine sw_iconst (v := 1) dX10_readsEdges_10 (by decide) ?_
  refine sw_isub dX10_readsEdges_11 ?_
  refine sw_cV (M := m_X10_readsEdges) dX10_readsEdges_12 lv_X10_209 hm9 hr9 rfl (by decide) rfl rfl rfl (Nat.le_of_ble_eq_true rfl) (fun _ _ => rfl) rfl ?_
  show SW sc m_X10_readsEdges _ _ _ 15 [some (.ref r0), some (.int l1), some (.int l2), none] [.int v9] g9 P
  exact sw_if_ne dX10_readsEdges_15 (by decide) (fun q => (kt q)) (fun q => (sw_fg [true, true, true, false] rfl (kf q)))
theorem b_X10_readsEdges_18  (hP : P (.inl (some (.int 0))) h) : SW sc m_X10_readsEdges d rc rs 18 [none, none, none, none] [] h P := by
  refine sw_iconst (v := 0) dX10_readsEdges_18 (by decide) ?_
  exact sw_ret (v := (some (.int 0))) dX10_readsEdges_19 (rt_n (by decide)) hP
theorem b_X10_readsEdges_20 {r0 : Nat} {l1 : Int32} {l2 : Int32} {fs2 : List Value} {x2 : Int32} (hc2 : (h)[r0]? = some (10, fs2)) (hv2 : fs2[21]? = some (.int x2)) (k : SW sc m_X10_readsEdges d rc rs 25 [some (.ref r0), some (.int l1), some (.int l2), some (.int x2)] [] h P) : SW sc m_X10_readsEdges d rc rs 20 [some (.ref r0), some (.int l1), some (.int l2), none] [] h P := by
  refine sw_aload_n dX10_readsEdges_20 rfl ?_
  refine sw_getf dX10_readsEdges_21 lf_X10_199 hc2 hv2 ?_
  refine sw_istore_n dX10_readsEdges_24 (by decide) rfl ?_
  show SW sc m_X10_readsEdges _ _ _ 25 [some (.ref r0), some (.int l1), some (.int l2), some (.int x2)] [] h P
  exact (k)
theorem b_X10_readsEdges_25 {r0 : Nat} {l1 : Int32} {l2 : Int32} {l3 : Int32} {v3 : Int32} {g3 : ab_H} {fs3 : List Value} (hr3 : (h)[r0]? = some (10, fs3)) (hm3 : MSE m_X10_readsEnd d [.ref r0, .int l3] h (some (.int v3)) g3) (kt : ¬ v3 = 0 → SW sc m_X10_readsEdges (d + 1) rc rs 35 [some (.ref r0), some (.int l1), some (.int l2), some (.int l3)] [] g3 P) (kf : v3 = 0 → SW sc m_X10_readsEdges (d + 1) rc rs 33 [none, none, none, none] [] g3 P) : SW sc m_X10_readsEdges (d + 1) rc rs 25 [some (.ref r0), some (.int l1), some (.int l2), some (.int l3)] [] h P := by
  refine sw_aload_n dX10_readsEdges_25 rfl ?_
  refine sw_iload_n dX10_readsEdges_26 rfl ?_
  refine sw_cV (M := m_X10_readsEdges) dX10_readsEdges_27 lv_X10_212 hm3 hr3 rfl (by decide) rfl rfl rfl (Nat.le_of_ble_eq_true rfl) (fun _ _ => rfl) rfl ?_
  show SW sc m_X10_readsEdges _ _ _ 30 [some (.ref r0), some (.int l1), some (.int l2), some (.int l3)] [.int v3] g3 P
  exact sw_if_ne dX10_readsEdges_30 (by decide) (fun q => (kt q)) (fun q => (sw_fg [true, true, true, true] rfl (kf q)))
theorem b_X10_readsEdges_33  (hP : P (.inl (some (.int 0))) h) : SW sc m_X10_readsEdges d rc rs 33 [none, none, none, none] [] h P := by
  refine sw_iconst (v := 0) dX10_readsEdges_33 (by decide) ?_
  exact sw_ret (v := (some (.int 0))) dX10_readsEdges_34 (rt_n (by decide)) hP
theorem b_X10_readsEdges_35 {r0 : Nat} {l1 : Int32} {l2 : Int32} {l3 : Int32} (kt : l1 = 0 → SW sc m_X10_readsEdges d rc rs 46 [some (.ref r0), some (.int l1), some (.int l2), some (.int l3)] [] h P) (kf : ¬ (l1 = 0) → SW sc m_X10_readsEdges d rc rs 39 [some (.ref r0), some (.int l1), some (.int l2), none] [] h P) : SW sc m_X10_readsEdges d rc rs 35 [some (.ref r0), some (.int l1), some (.int l2), some (.int l3)] [] h P := by
  refine sw_iload_n dX10_readsEdges_35 rfl ?_
  exact sw_if_eq dX10_readsEdges_36 (by decide) (fun q => (kt q)) (fun q => (sw_fg [false, false, false, true] rfl (kf q)))
theorem b_X10_readsEdges_39 {r0 : Nat} {l1 : Int32} {l2 : Int32} {fs2 : List Value} {x2 : Int32} (hc2 : (h)[r0]? = some (10, fs2)) (hv2 : fs2[21]? = some (.int x2)) (k : SW sc m_X10_readsEdges d rc rs 47 [some (.ref r0), some (.int l1), some (.int l2), none] [.int x2] h P) : SW sc m_X10_readsEdges d rc rs 39 [some (.ref r0), some (.int l1), some (.int l2), none] [] h P := by
  refine sw_aload_n dX10_readsEdges_39 rfl ?_
  refine sw_getf dX10_readsEdges_40 lf_X10_199 hc2 hv2 ?_
  exact sw_goto dX10_readsEdges_43 (by decide) (k)
theorem b_X10_readsEdges_46 {r0 : Nat} {l1 : Int32} {l2 : Int32} {l3 : Int32} (k : SW sc m_X10_readsEdges d rc rs 47 [some (.ref r0), some (.int l1), some (.int l2), none] [.int l3] h P) : SW sc m_X10_readsEdges d rc rs 46 [some (.ref r0), some (.int l1), some (.int l2), some (.int l3)] [] h P := by
  refine sw_iload_n dX10_readsEdges_46 rfl ?_
  exact (sw_fg [false, false, false, true] rfl (k))
theorem b_X10_readsEdges_47 {r0 : Nat} {l1 : Int32} {l2 : Int32} {s0 : Int32} (kt : ¬ l2 = 0 → SW sc m_X10_readsEdges d rc rs 60 [none, none, none, none] [] h P) (kf : l2 = 0 → SW sc m_X10_readsEdges d rc rs 52 [some (.ref r0), some (.int l1), some (.int l2), some (.int s0)] [] h P) : SW sc m_X10_readsEdges d rc rs 47 [some (.ref r0), some (.int l1), some (.int l2), none] [.int s0] h P := by
  refine sw_istore_n dX10_readsEdges_47 (by decide) rfl ?_
  show SW sc m_X10_readsEdges _ _ _ 48 [some (.ref r0), some (.int l1), some (.int l2), some (.int s0)] [] h P
  refine sw_iload_n dX10_readsEdges_48 rfl ?_
  exact sw_if_ne dX10_readsEdges_49 (by decide) (fun q => (sw_fg [true, true, true, true] rfl (kt q))) (fun q => (kf q))
theorem b_X10_readsEdges_52 {r0 : Nat} {l1 : Int32} {l2 : Int32} {l3 : Int32} {fs2 : List Value} {x2 : Int32} (hc2 : (h)[r0]? = some (10, fs2)) (hv2 : fs2[17]? = some (.int x2)) (kt : x2 = 3 → SW sc m_X10_readsEdges d rc rs 25 [some (.ref r0), some (.int l1), some (.int l2), some (.int l3)] [] h P) (kf : ¬ (x2 = 3) → SW sc m_X10_readsEdges d rc rs 60 [none, none, none, none] [] h P) : SW sc m_X10_readsEdges d rc rs 52 [some (.ref r0), some (.int l1), some (.int l2), some (.int l3)] [] h P := by
  refine sw_aload_n dX10_readsEdges_52 rfl ?_
  refine sw_getf dX10_readsEdges_53 lf_X10_169 hc2 hv2 ?_
  refine sw_iconst (v := 3) dX10_readsEdges_56 (by decide) ?_
  exact sw_icmp_eq dX10_readsEdges_57 (by decide) (fun q => (kt q)) (fun q => (sw_fg [true, true, true, true] rfl (kf q)))
theorem b_X10_readsEdges_60  (hP : P (.inl (some (.int 1))) h) : SW sc m_X10_readsEdges d rc rs 60 [none, none, none, none] [] h P := by
  refine sw_iconst (v := 1) dX10_readsEdges_60 (by decide) ?_
  exact sw_ret (v := (some (.int 1))) dX10_readsEdges_61 (rt_n (by decide)) hP
theorem b_X10_codeMany_0 {l0 : Int32} (kt : 3 ≤ l0 → SW sc m_X10_codeMany d rc rs 9 [some (.int l0)] [] h P) (kf : ¬ (3 ≤ l0) → SW sc m_X10_codeMany d rc rs 5 [none] [] h P) : SW sc m_X10_codeMany d rc rs 0 [some (.int l0)] [] h P := by
  refine sw_iload_n dX10_codeMany_0 rfl ?_
  refine sw_iconst (v := 3) dX10_codeMany_1 (by decide) ?_
  exact sw_icmp_ge dX10_codeMany_2 (by decide) (fun q => (kt q)) (fun q => (sw_fg [true] rfl (kf q)))
theorem b_X10_codeMany_5  (k : SW sc m_X10_codeMany d rc rs 12 [none] [.int 0] h P) : SW sc m_X10_codeMany d rc rs 5 [none] [] h P := by
  refine sw_iconst (v := 0) dX10_codeMany_5 (by decide) ?_
  exact sw_goto dX10_codeMany_6 (by decide) (k)
theorem b_X10_codeMany_9 {l0 : Int32} (k : SW sc m_X10_codeMany d rc rs 12 [none] [.int (l0 - 2)] h P) : SW sc m_X10_codeMany d rc rs 9 [some (.int l0)] [] h P := by
  refine sw_iload_n dX10_codeMany_9 rfl ?_
  refine sw_iconst (v := 2) dX10_codeMany_10 (by decide) ?_
  refine sw_isub dX10_codeMany_11 ?_
  exact (sw_fg [true] rfl (k))
theorem b_X10_codeMany_12 {s0 : Int32} (hP : P (.inl (some (.int s0))) h) : SW sc m_X10_codeMany d rc rs 12 [none] [.int s0] h P := by
  exact sw_ret (v := (some (.int s0))) dX10_codeMany_12 rt_i hP
theorem b_X10_grows_0 {r0 : Nat} {l1 : Int32} {fs3 : List Value} (hc3 : (h)[r0]? = some (10, fs3)) (hk3 : 10 < fs3.length) (k : SW sc m_X10_grows d rc rs 7 [some (.ref r0), some (.int l1), some (.int 0), none, none] [] ((h).set r0 (10, fs3.set 10 (.int l1))) P) : SW sc m_X10_grows d rc rs 0 [some (.ref r0), some (.int l1), none, none, none] [] h P := by
  refine sw_aload_n dX10_grows_0 rfl ?_
  refine sw_iload_n dX10_grows_1 rfl ?_
  refine sw_putf dX10_grows_2 lp_X10_60 hc3 hk3 (fun _ _ => ⟨rfl, rfl⟩) ?_
  refine sw_iconst (v := 0) dX10_grows_5 (by decide) ?_
  refine sw_istore_n dX10_grows_6 (by decide) rfl ?_
  show SW sc m_X10_grows _ _ _ 7 [some (.ref r0), some (.int l1), some (.int 0), none, none] [] ((h).set r0 (10, fs3.set 10 (.int l1))) P
  exact (k)
theorem b_X10_grows_7 {r0 : Nat} {l1 : Int32} {l2 : Int32} (kt : 10 ≤ l2 → SW sc m_X10_grows d rc rs 26 [some (.ref r0), some (.int l1), none, none, none] [] h P) (kf : ¬ (10 ≤ l2) → SW sc m_X10_grows d rc rs 13 [some (.ref r0), some (.int l1), some (.int l2), none, none] [] h P) : SW sc m_X10_grows d rc rs 7 [some (.ref r0), some (.int l1), some (.int l2), none, none] [] h P := by
  refine sw_iload_n dX10_grows_7 rfl ?_
  refine sw_bipush (v := 10) dX10_grows_8 (by decide) ?_
  exact sw_icmp_ge dX10_grows_10 (by decide) (fun q => (sw_fg [false, false, true, false, false] rfl (kt q))) (fun q => (kf q))
theorem b_X10_grows_13 {r0 : Nat} {l1 : Int32} {l2 : Int32} {fs2 : List Value} {a2 : Nat} {vs5 : List Value} (hc2 : (h)[r0]? = some (10, fs2)) (hv2 : fs2[2]? = some (.ref a2)) (hc5 : (h)[a2]? = some (100, vs5)) (ho5 : ¬ l2 < 0) (hl5 : l2.toNatClampNeg < vs5.length) (k : SW sc m_X10_grows d rc rs 7 [some (.ref r0), some (.int l1), some (.int (l2 + 1)), none, none] [] ((h).set a2 (100, vs5.set l2.toNatClampNeg (.int 0))) P) : SW sc m_X10_grows d rc rs 13 [some (.ref r0), some (.int l1), some (.int l2), none, none] [] h P := by
  refine sw_aload_n dX10_grows_13 rfl ?_
  refine sw_getf dX10_grows_14 lf_X10_23 hc2 hv2 ?_
  refine sw_iload_n dX10_grows_17 rfl ?_
  refine sw_iconst (v := 0) dX10_grows_18 (by decide) ?_
  refine sw_iast dX10_grows_19 hc5 ho5 hl5 ?_
  refine sw_iinc (v := l2 + 1) dX10_grows_20 rfl rfl (by decide) rfl ?_
  show SW sc m_X10_grows _ _ _ 23 [some (.ref r0), some (.int l1), some (.int (l2 + 1)), none, none] [] ((h).set a2 (100, vs5.set l2.toNatClampNeg (.int 0))) P
  exact sw_goto dX10_grows_23 (by decide) (k)
theorem b_X10_grows_26 {r0 : Nat} {l1 : Int32} (k : SW sc m_X10_grows d rc rs 34 [some (.ref r0), some (.int l1), some (.int ((1 <<< (l1 &&& 31)) - 1)), some (.int 0), none] [] h P) : SW sc m_X10_grows d rc rs 26 [some (.ref r0), some (.int l1), none, none, none] [] h P := by
  refine sw_iconst (v := 1) dX10_grows_26 (by decide) ?_
  refine sw_iload_n dX10_grows_27 rfl ?_
  refine sw_ishl dX10_grows_28 ?_
  refine sw_iconst (v := 1) dX10_grows_29 (by decide) ?_
  refine sw_isub dX10_grows_30 ?_
  refine sw_istore_n dX10_grows_31 (by decide) rfl ?_
  show SW sc m_X10_grows _ _ _ 32 [some (.ref r0), some (.int l1), some (.int ((1 <<< (l1 &&& 31)) - 1)), none, none] [] h P
  refine sw_iconst (v := 0) dX10_grows_32 (by decide) ?_
  refine sw_istore_n dX10_grows_33 (by decide) rfl ?_
  show SW sc m_X10_grows _ _ _ 34 [some (.ref r0), some (.int l1), some (.int ((1 <<< (l1 &&& 31)) - 1)), some (.int 0), none] [] h P
  exact (k)
theorem b_X10_grows_34 {r0 : Nat} {l1 : Int32} {l2 : Int32} {l3 : Int32} {v3 : Int32} {g3 : ab_H} (hm3 : MSE m_X10_codeMany d [.int l1] h (some (.int v3)) g3) (kt : v3 ≤ l3 → SW sc m_X10_grows (d + 1) rc rs 101 [some (.ref r0), some (.int l1), some (.int l2), none, none] [] g3 P) (kf : ¬ (v3 ≤ l3) → SW sc m_X10_grows (d + 1) rc rs 42 [some (.ref r0), some (.int l1), some (.int l2), some (.int l3), none] [] g3 P) : SW sc m_X10_grows (d + 1) rc rs 34 [some (.ref r0), some (.int l1), some (.int l2), some (.int l3), none] [] h P := by
  refine sw_iload_n dX10_grows_34 rfl ?_
  refine sw_iload_n dX10_grows_35 rfl ?_
  refine sw_cS (M := m_X10_grows) dX10_grows_36 ls_X10_215 hm3 rfl rfl (Nat.le_of_ble_eq_true rfl) (fun _ _ => rfl) rfl ?_
  show SW sc m_X10_grows _ _ _ 39 [some (.ref r0), some (.int l1), some (.int l2), some (.int l3), none] [.int v3, .int l3] g3 P
  exact sw_icmp_ge dX10_grows_39 (by decide) (fun q => (sw_fg [false, false, false, true, false] rfl (kt q))) (fun q => (kf q))
theorem b_X10_grows_42 {r0 : Nat} {l1 : Int32} {l2 : Int32} {l3 : Int32} (k : SW sc m_X10_grows d rc rs 45 [some (.ref r0), some (.int l1), some (.int l2), some (.int l3), some (.int 0)] [] h P) : SW sc m_X10_grows d rc rs 42 [some (.ref r0), some (.int l1), some (.int l2), some (.int l3), none] [] h P := by
  refine sw_iconst (v := 0) dX10_grows_42 (by decide) ?_
  refine sw_istore dX10_grows_43 (by decide) rfl ?_
  show SW sc m_X10_grows _ _ _ 45 [some (.ref r0), some (.int l1), some (.int l2), some (.int l3), some (.int 0)] [] h P
  exact (k)
theorem b_X10_grows_45 {r0 : Nat} {l1 : Int32} {l2 : Int32} {l3 : Int32} {l4 : Int32} {v3 : Int32} {g3 : ab_H} (hm3 : MSE m_X10_has d [.int l2, .int l4] h (some (.int v3)) g3) (kt : v3 = 0 → SW sc m_X10_grows (d + 1) rc rs 65 [some (.ref r0), some (.int l1), some (.int l2), some (.int l3), some (.int l4)] [] g3 P) (kf : ¬ (v3 = 0) → SW sc m_X10_grows (d + 1) rc rs 54 [some (.ref r0), some (.int l1), some (.int l2), some (.int l3), some (.int l4)] [] g3 P) : SW sc m_X10_grows (d + 1) rc rs 45 [some (.ref r0), some (.int l1), some (.int l2), some (.int l3), some (.int l4)] [] h P := by
  refine sw_iload_n dX10_grows_45 rfl ?_
  refine sw_iload dX10_grows_46 rfl ?_
  refine sw_cS (M := m_X10_grows) dX10_grows_48 ls_X10_70 hm3 rfl rfl (Nat.le_of_ble_eq_true rfl) (fun _ _ => rfl) rfl ?_
  show SW sc m_X10_grows _ _ _ 51 [some (.ref r0), some (.int l1), some (.int l2), some (.int l3), some (.int l4)] [.int v3] g3 P
  exact sw_if_eq dX10_grows_51 (by decide) (fun q => (kt q)) (fun q => (kf q))
theorem b_X10_grows_54 {r0 : Nat} {l1 : Int32} {l2 : Int32} {l3 : Int32} {l4 : Int32} {v5 : Int32} {g5 : ab_H} {fs5 : List Value} (hr5 : (h)[r0]? = some (10, fs5)) (hm5 : MSE m_X10_isAhead d [.ref r0, .int l4, .int l3, .int l1] h (some (.int v5)) g5) (kt : v5 = 0 → SW sc m_X10_grows (d + 1) rc rs 71 [some (.ref r0), some (.int l1), some (.int l2), some (.int l3), some (.int l4)] [] g5 P) (kf : ¬ (v5 = 0) → SW sc m_X10_grows (d + 1) rc rs 65 [some (.ref r0), some (.int l1), some (.int l2), some (.int l3), some (.int l4)] [] g5 P) : SW sc m_X10_grows (d + 1) rc rs 54 [some (.ref r0), some (.int l1), some (.int l2), some (.int l3), some (.int l4)] [] h P := by
  refine sw_aload_n dX10_grows_54 rfl ?_
  refine sw_iload dX10_grows_55 rfl ?_
  refine sw_iload_n dX10_grows_57 rfl ?_
  refine sw_iload_n dX10_grows_58 rfl ?_
  refine sw_cV (M := m_X10_grows) dX10_grows_59 lv_X10_218 hm5 hr5 rfl (by decide) rfl rfl rfl (Nat.le_of_ble_eq_true rfl) (fun _ _ => rfl) rfl ?_
  show SW sc m_X10_grows _ _ _ 62 [some (.ref r0), some (.int l1), some (.int l2), some (.int l3), some (.int l4)] [.int v5] g5 P
  exact sw_if_eq dX10_grows_62 (by decide) (fun q => (kt q)) (fun q => (kf q))
theorem b_X10_grows_65 {r0 : Nat} {l1 : Int32} {l2 : Int32} {l3 : Int32} {l4 : Int32} (k : SW sc m_X10_grows d rc rs 45 [some (.ref r0), some (.int l1), some (.int l2), some (.int l3), some (.int (l4 + 1))] [] h P) : SW sc m_X10_grows d rc rs 65 [some (.ref r0), some (.int l1), some (.int l2), some (.int l3), some (.int l4)] [] h P := by
  refine sw_iinc (v := l4 + 1) dX10_grows_65 rfl rfl (by decide) rfl ?_
  show SW sc m_X10_grows _ _ _ 68 [some (.ref r0), some (.int l1), some (.int l2), some (.int l3), some (.int (l4 + 1))] [] h P
  exact sw_goto dX10_grows_68 (by decide) (k)
theorem b_X10_grows_71 {r0 : Nat} {l1 : Int32} {l2 : Int32} {l3 : Int32} {l4 : Int32} {fs2 : List Value} {a2 : Nat} {fs5 : List Value} {a5 : Nat} {vs7 : List Value} {x7 : Int32} {g8 : ab_H} (hc2 : (h)[r0]? = some (10, fs2)) (hv2 : fs2[2]? = some (.ref a2)) (hc5 : (h)[r0]? = some (10, fs5)) (hv5 : fs5[22]? = some (.ref a5)) (hc7 : (h)[a5]? = some (100, vs7)) (ho7 : ¬ l3 < 0) (hi7 : vs7[l3.toNatClampNeg]? = some (.int x7)) (hm8 : MSE m_X10_joins d [.ref a2, .int l4, .int x7] h none g8) (k : SW sc m_X10_grows (d + 1) rc rs 34 [some (.ref r0), some (.int l1), some (.int (l2 &&& ((1 <<< (l4 &&& 31)) ^^^ (-1)))), some (.int (l3 + 1)), none] [] g8 P) : SW sc m_X10_grows (d + 1) rc rs 71 [some (.ref r0), some (.int l1), some (.int l2), some (.int l3), some (.int l4)] [] h P := by
  refine sw_aload_n dX10_grows_71 rfl ?_
  refine sw_getf dX10_grows_72 lf_X10_23 hc2 hv2 ?_
  refine sw_iload dX10_grows_75 rfl ?_
  refine sw_aload_n dX10_grows_77 rfl ?_
  refine sw_getf dX10_grows_78 lf_X10_44 hc5 hv5 ?_
  refine sw_iload_n dX10_grows_81 rfl ?_
  refine sw_iald dX10_grows_82 hc7 ho7 hi7 ?_
  refine sw_cS (M := m_X10_grows) dX10_grows_83 ls_X10_205 hm8 rfl rfl (Nat.le_of_ble_eq_true rfl) (fun _ _ => rfl) rfl ?_
  show SW sc m_X10_grows _ _ _ 86 [some (.ref r0), some (.int l1), some (.int l2), some (.int l3), some (.int l4)] [] g8 P
  refine sw_iload_n dX10_grows_86 rfl ?_
  refine sw_iconst (v := 1) dX10_grows_87 (by decide) ?_
  refine sw_iload dX10_grows_88 rfl ?_
  refine sw_ishl dX10_grows_90 ?_
  refine sw_iconst (v := (-1)) dX10_grows_91 (by decide) ?_
  refine sw_ixor dX10_grows_92 ?_
  refine sw_iand dX10_grows_93 ?_
  refine sw_istore_n dX10_grows_94 (by decide) rfl ?_
  show SW sc m_X10_grows _ _ _ 95 [some (.ref r0), some (.int l1), some (.int (l2 &&& ((1 <<< (l4 &&& 31)) ^^^ (-1)))), some (.int l3), some (.int l4)] [] g8 P
  refine sw_iinc (v := l3 + 1) dX10_grows_95 rfl rfl (by decide) rfl ?_
  show SW sc m_X10_grows _ _ _ 98 [some (.ref r0), some (.int l1), some (.int (l2 &&& ((1 <<< (l4 &&& 31)) ^^^ (-1)))), some (.int (l3 + 1)), some (.int l4)] [] g8 P
  exact sw_goto dX10_grows_98 (by decide) (sw_fg [false, false, false, false, true] rfl (k))
theorem b_X10_grows_101 {r0 : Nat} {l1 : Int32} {l2 : Int32} (kt : l1 ≤ 1 → SW sc m_X10_grows d rc rs 125 [none, none, none, none, none] [] h P) (kf : ¬ (l1 ≤ 1) → SW sc m_X10_grows d rc rs 106 [some (.ref r0), none, some (.int l2), none, none] [] h P) : SW sc m_X10_grows d rc rs 101 [some (.ref r0), some (.int l1), some (.int l2), none, none] [] h P := by
  refine sw_iload_n dX10_grows_101 rfl ?_
  refine sw_iconst (v := 1) dX10_grows_102 (by decide) ?_
  exact sw_icmp_le dX10_grows_103 (by decide) (fun q => (sw_fg [true, true, true, false, false] rfl (kt q))) (fun q => (sw_fg [false, true, false, false, false] rfl (kf q)))
theorem b_X10_grows_106 {r0 : Nat} {l2 : Int32} {fs2 : List Value} {a2 : Nat} {v4 : Int32} {g4 : ab_H} {v10 : Int32} {g10 : ab_H} {g11 : ab_H} (hc2 : (h)[r0]? = some (10, fs2)) (hv2 : fs2[2]? = some (.ref a2)) (hm4 : MSE m_X10_lowest d [.int l2] h (some (.int v4)) g4) (hm10 : MSE m_X10_lowest d [.int (l2 &&& (l2 - 1))] g4 (some (.int v10)) g10) (hm11 : MSE m_X10_joins d [.ref a2, .int v4, .int v10] g10 none g11) (k : SW sc m_X10_grows (d + 1) rc rs 125 [none, none, none, none, none] [] g11 P) : SW sc m_X10_grows (d + 1) rc rs 106 [some (.ref r0), none, some (.int l2), none, none] [] h P := by
  refine sw_aload_n dX10_grows_106 rfl ?_
  refine sw_getf dX10_grows_107 lf_X10_23 hc2 hv2 ?_
  refine sw_iload_n dX10_grows_110 rfl ?_
  refine sw_cS (M := m_X10_grows) dX10_grows_111 ls_X10_87 hm4 rfl rfl (Nat.le_of_ble_eq_true rfl) (fun _ _ => rfl) rfl ?_
  show SW sc m_X10_grows _ _ _ 114 [some (.ref r0), none, some (.int l2), none, none] [.int v4, .ref a2] g4 P
  refine sw_iload_n dX10_grows_114 rfl ?_
  refine sw_iload_n dX10_grows_115 rfl ?_
  refine sw_iconst (v := 1) dX10_grows_116 (by decide) ?_
  refine sw_isub dX10_grows_117 ?_
  refine sw_iand dX10_grows_118 ?_
  refine sw_cS (M := m_X10_grows) dX10_grows_119 ls_X10_87 hm10 rfl rfl (Nat.le_of_ble_eq_true rfl) (fun _ _ => rfl) rfl ?_
  show SW sc m_X10_grows _ _ _ 122 [some (.ref r0), none, some (.int l2), none, none] [.int v10, .int v4, .ref a2] g10 P
  refine sw_cS (M := m_X10_grows) dX10_grows_122 ls_X10_205 hm11 rfl rfl (Nat.le_of_ble_eq_true rfl) (fun _ _ => rfl) rfl ?_
  show SW sc m_X10_grows _ _ _ 125 [some (.ref r0), none, some (.int l2), none, none] [] g11 P
  exact (sw_fg [true, false, true, false, false] rfl (k))
theorem b_X10_grows_125  (hP : P (.inl none) h) : SW sc m_X10_grows d rc rs 125 [none, none, none, none, none] [] h P := by
  exact sw_ret (v := none) dX10_grows_125 rt_v hP
theorem b_X10_isAhead_0 {r0 : Nat} {l1 : Int32} {l2 : Int32} {l3 : Int32} (k : SW sc m_X10_isAhead d rc rs 3 [some (.ref r0), some (.int l1), none, some (.int l3), some (.int l2)] [] h P) : SW sc m_X10_isAhead d rc rs 0 [some (.ref r0), some (.int l1), some (.int l2), some (.int l3), none] [] h P := by
  refine sw_iload_n dX10_isAhead_0 rfl ?_
  refine sw_istore dX10_isAhead_1 (by decide) rfl ?_
  show SW sc m_X10_isAhead _ _ _ 3 [some (.ref r0), some (.int l1), some (.int l2), some (.int l3), some (.int l2)] [] h P
  exact (sw_fg [false, false, true, false, false] rfl (k))
theorem b_X10_isAhead_3 {r0 : Nat} {l1 : Int32} {l3 : Int32} {l4 : Int32} {v3 : Int32} {g3 : ab_H} (hm3 : MSE m_X10_codeMany d [.int l3] h (some (.int v3)) g3) (kt : v3 ≤ l4 → SW sc m_X10_isAhead (d + 1) rc rs 31 [none, none, none, none, none] [] g3 P) (kf : ¬ (v3 ≤ l4) → SW sc m_X10_isAhead (d + 1) rc rs 12 [some (.ref r0), some (.int l1), none, some (.int l3), some (.int l4)] [] g3 P) : SW sc m_X10_isAhead (d + 1) rc rs 3 [some (.ref r0), some (.int l1), none, some (.int l3), some (.int l4)] [] h P := by
  refine sw_iload dX10_isAhead_3 rfl ?_
  refine sw_iload_n dX10_isAhead_5 rfl ?_
  refine sw_cS (M := m_X10_isAhead) dX10_isAhead_6 ls_X10_215 hm3 rfl rfl (Nat.le_of_ble_eq_true rfl) (fun _ _ => rfl) rfl ?_
  show SW sc m_X10_isAhead _ _ _ 9 [some (.ref r0), some (.int l1), none, some (.int l3), some (.int l4)] [.int v3, .int l4] g3 P
  exact sw_icmp_ge dX10_isAhead_9 (by decide) (fun q => (sw_fg [true, true, false, true, true] rfl (kt q))) (fun q => (kf q))
theorem b_X10_isAhead_12 {r0 : Nat} {l1 : Int32} {l3 : Int32} {l4 : Int32} {fs2 : List Value} {a2 : Nat} {vs4 : List Value} {x4 : Int32} (hc2 : (h)[r0]? = some (10, fs2)) (hv2 : fs2[22]? = some (.ref a2)) (hc4 : (h)[a2]? = some (100, vs4)) (ho4 : ¬ l4 < 0) (hi4 : vs4[l4.toNatClampNeg]? = some (.int x4)) (kt : ¬ x4 = l1 → SW sc m_X10_isAhead d rc rs 25 [some (.ref r0), some (.int l1), none, some (.int l3), some (.int l4)] [] h P) (kf : x4 = l1 → SW sc m_X10_isAhead d rc rs 23 [none, none, none, none, none] [] h P) : SW sc m_X10_isAhead d rc rs 12 [some (.ref r0), some (.int l1), none, some (.int l3), some (.int l4)] [] h P := by
  refine sw_aload_n dX10_isAhead_12 rfl ?_
  refine sw_getf dX10_isAhead_13 lf_X10_44 hc2 hv2 ?_
  refine sw_iload dX10_isAhead_16 rfl ?_
  refine sw_iald dX10_isAhead_18 hc4 ho4 hi4 ?_
  refine sw_iload_n dX10_isAhead_19 rfl ?_
  exact sw_icmp_ne dX10_isAhead_20 (by decide) (fun q => (kt q)) (fun q => (sw_fg [true, true, false, true, true] rfl (kf q)))
theorem b_X10_isAhead_23  (hP : P (.inl (some (.int 1))) h) : SW sc m_X10_isAhead d rc rs 23 [none, none, none, none, none] [] h P := by
  refine sw_iconst (v := 1) dX10_isAhead_23 (by decide) ?_
  exact sw_ret (v := (some (.int 1))) dX10_isAhead_24 (rt_n (by decide)) hP
theorem b_X10_isAhead_25 {r0 : Nat} {l1 : Int32} {l3 : Int32} {l4 : Int32} (k : SW sc m_X10_isAhead d rc rs 3 [some (.ref r0), some (.int l1), none, some (.int l3), some (.int (l4 + 1))] [] h P) : SW sc m_X10_isAhead d rc rs 25 [some (.ref r0), some (.int l1), none, some (.int l3), some (.int l4)] [] h P := by
  refine sw_iinc (v := l4 + 1) dX10_isAhead_25 rfl rfl (by decide) rfl ?_
  show SW sc m_X10_isAhead _ _ _ 28 [some (.ref r0), some (.int l1), none, some (.int l3), some (.int (l4 + 1))] [] h P
  exact sw_goto dX10_isAhead_28 (by decide) (k)
end
