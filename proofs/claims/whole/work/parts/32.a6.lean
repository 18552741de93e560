section
variable {sc : Option (List Int32)} {d rc rs : Nat} {h : ab_H} {P : ab_O → ab_H → Prop}
theorem b_X6_advance_94 {r0 : Nat} {l1 : Int32} {v2 : Int32} {g2 : ab_H} (hm2 : MSE m_X6_isLetter d [.int l1] h (some (.int v2)) g2) (kt : v2 = 0 → SW sc m_X6_advance (d + 1) rc rs 108 [some (.ref r0), some (.int l1)] [] g2 P) (kf : ¬ (v2 = 0) → SW sc m_X6_advance (d + 1) rc rs 101 [some (.ref r0), none] [] g2 P) : SW sc m_X6_advance (d + 1) rc rs 94 [some (.ref r0), some (.int l1)] [] h P := by
  refine sw_iload_n dX6_advance_94 rfl ?_
  refine sw_cS (M := m_X6_advance) dX6_advance_95 ls_X6_145 hm2 rfl rfl (Nat.le_of_ble_eq_true rfl) (fun _ _ => rfl) rfl ?_
  show SW sc m_X6_advance _ _ _ 98 [some (.ref r0), some (.int l1)] [.int v2] g2 P
  exact sw_if_eq dX6_advance_98 (by decide) (fun q => (kt q)) (fun q => (sw_fg [false, true] rfl (kf q)))
theorem b_X6_advance_101 {r0 : Nat} {g2 : ab_H} {fs2 : List Value} (hr2 : (h)[r0]? = some (6, fs2)) (hm2 : MSE m_X6_advanceWord d [.ref r0] h none g2) (k : SW sc m_X6_advance (d + 1) rc rs 147 [none, none] [] g2 P) : SW sc m_X6_advance (d + 1) rc rs 101 [some (.ref r0), none] [] h P := by
  refine sw_aload_n dX6_advance_101 rfl ?_
  refine sw_cV (M := m_X6_advance) dX6_advance_102 lv_X6_148 hm2 hr2 rfl (by decide) rfl rfl rfl (Nat.le_of_ble_eq_true rfl) (fun _ _ => rfl) rfl ?_
  show SW sc m_X6_advance _ _ _ 105 [some (.ref r0), none] [] g2 P
  exact sw_goto dX6_advance_105 (by decide) (sw_fg [true, false] rfl (k))
theorem b_X6_advance_108 {r0 : Nat} {l1 : Int32} {v2 : Int32} {g2 : ab_H} (hm2 : MSE m_X6_isDigit d [.int l1] h (some (.int v2)) g2) (kt : v2 = 0 → SW sc m_X6_advance (d + 1) rc rs 122 [some (.ref r0), some (.int l1)] [] g2 P) (kf : ¬ (v2 = 0) → SW sc m_X6_advance (d + 1) rc rs 115 [some (.ref r0), none] [] g2 P) : SW sc m_X6_advance (d + 1) rc rs 108 [some (.ref r0), some (.int l1)] [] h P := by
  refine sw_iload_n dX6_advance_108 rfl ?_
  refine sw_cS (M := m_X6_advance) dX6_advance_109 ls_X6_151 hm2 rfl rfl (Nat.le_of_ble_eq_true rfl) (fun _ _ => rfl) rfl ?_
  show SW sc m_X6_advance _ _ _ 112 [some (.ref r0), some (.int l1)] [.int v2] g2 P
  exact sw_if_eq dX6_advance_112 (by decide) (fun q => (kt q)) (fun q => (sw_fg [false, true] rfl (kf q)))
theorem b_X6_advance_115 {r0 : Nat} {g2 : ab_H} {fs2 : List Value} (hr2 : (h)[r0]? = some (6, fs2)) (hm2 : MSE m_X6_advanceNumber d [.ref r0] h none g2) (k : SW sc m_X6_advance (d + 1) rc rs 147 [none, none] [] g2 P) : SW sc m_X6_advance (d + 1) rc rs 115 [some (.ref r0), none] [] h P := by
  refine sw_aload_n dX6_advance_115 rfl ?_
  refine sw_cV (M := m_X6_advance) dX6_advance_116 lv_X6_154 hm2 hr2 rfl (by decide) rfl rfl rfl (Nat.le_of_ble_eq_true rfl) (fun _ _ => rfl) rfl ?_
  show SW sc m_X6_advance _ _ _ 119 [some (.ref r0), none] [] g2 P
  exact sw_goto dX6_advance_119 (by decide) (sw_fg [true, false] rfl (k))
theorem b_X6_advance_122 {r0 : Nat} {l1 : Int32} {fs3 : List Value} {x3 : Int32} {fs6 : List Value} (hc3 : (h)[r0]? = some (6, fs3)) (hv3 : fs3[3]? = some (.int x3)) (hc6 : (h)[r0]? = some (6, fs6)) (hk6 : 4 < fs6.length) (kt : ¬ l1 = 59 → SW sc m_X6_advance d rc rs 143 [none, none] [.ref r0] ((h).set r0 (6, fs6.set 4 (.int (x3 + 1)))) P) (kf : l1 = 59 → SW sc m_X6_advance d rc rs 139 [none, none] [.ref r0] ((h).set r0 (6, fs6.set 4 (.int (x3 + 1)))) P) : SW sc m_X6_advance d rc rs 122 [some (.ref r0), some (.int l1)] [] h P := by
  refine sw_aload_n dX6_advance_122 rfl ?_
  refine sw_aload_n dX6_advance_123 rfl ?_
  refine sw_getf dX6_advance_124 lf_X6_125 hc3 hv3 ?_
  refine sw_iconst (v := 1) dX6_advance_127 (by decide) ?_
  refine sw_iadd dX6_advance_128 ?_
  refine sw_putf dX6_advance_129 lp_X6_32 hc6 hk6 (fun _ _ => ⟨rfl, rfl⟩) ?_
  refine sw_aload_n dX6_advance_132 rfl ?_
  refine sw_iload_n dX6_advance_133 rfl ?_
  refine sw_bipush (v := 59) dX6_advance_134 (by decide) ?_
  exact sw_icmp_ne dX6_advance_136 (by decide) (fun q => (sw_fg [true, true] rfl (kt q))) (fun q => (sw_fg [true, true] rfl (kf q)))
theorem b_X6_advance_139 {q0 : Nat} (k : SW sc m_X6_advance d rc rs 144 [none, none] [.int 3, .ref q0] h P) : SW sc m_X6_advance d rc rs 139 [none, none] [.ref q0] h P := by
  refine sw_iconst (v := 3) dX6_advance_139 (by decide) ?_
  exact sw_goto dX6_advance_140 (by decide) (k)
theorem b_X6_advance_143 {q0 : Nat} (k : SW sc m_X6_advance d rc rs 144 [none, none] [.int 4, .ref q0] h P) : SW sc m_X6_advance d rc rs 143 [none, none] [.ref q0] h P := by
  refine sw_iconst (v := 4) dX6_advance_143 (by decide) ?_
  exact (k)
theorem b_X6_advance_144 {q0 : Nat} {s1 : Int32} {fs1 : List Value} (hc1 : (h)[q0]? = some (6, fs1)) (hk1 : 5 < fs1.length) (k : SW sc m_X6_advance d rc rs 147 [none, none] [] ((h).set q0 (6, fs1.set 5 (.int s1))) P) : SW sc m_X6_advance d rc rs 144 [none, none] [.int s1, .ref q0] h P := by
  refine sw_putf dX6_advance_144 lp_X6_46 hc1 hk1 (fun _ _ => ⟨rfl, rfl⟩) ?_
  exact (k)
theorem b_X6_advance_147  (hP : P (.inl none) h) : SW sc m_X6_advance d rc rs 147 [none, none] [] h P := by
  exact sw_ret (v := none) dX6_advance_147 rt_v hP
theorem b_X6_advanceWord_0 {r0 : Nat} {fs3 : List Value} {x3 : Int32} {fs4 : List Value} (hc3 : (h)[r0]? = some (6, fs3)) (hv3 : fs3[3]? = some (.int x3)) (hc4 : (h)[r0]? = some (6, fs4)) (hk4 : 4 < fs4.length) (k : SW sc m_X6_advanceWord d rc rs 8 [some (.ref r0)] [] ((h).set r0 (6, fs4.set 4 (.int x3))) P) : SW sc m_X6_advanceWord d rc rs 0 [some (.ref r0)] [] h P := by
  refine sw_aload_n dX6_advanceWord_0 rfl ?_
  refine sw_aload_n dX6_advanceWord_1 rfl ?_
  refine sw_getf dX6_advanceWord_2 lf_X6_125 hc3 hv3 ?_
  refine sw_putf dX6_advanceWord_5 lp_X6_32 hc4 hk4 (fun _ _ => ⟨rfl, rfl⟩) ?_
  exact (k)
theorem b_X6_advanceWord_8 {r0 : Nat} {fs2 : List Value} {x2 : Int32} {fs4 : List Value} {a4 : Nat} {fs5 : List Value} {x5 : Int32} (hc2 : (h)[r0]? = some (6, fs2)) (hv2 : fs2[4]? = some (.int x2)) (hc4 : (h)[r0]? = some (6, fs4)) (hv4 : fs4[0]? = some (.ref a4)) (hc5 : (h)[a4]? = some (0, fs5)) (hv5 : fs5[1]? = some (.int x5)) (kt : x5 ≤ x2 → SW sc m_X6_advanceWord d rc rs 52 [some (.ref r0)] [] h P) (kf : ¬ (x5 ≤ x2) → SW sc m_X6_advanceWord d rc rs 22 [some (.ref r0)] [] h P) : SW sc m_X6_advanceWord d rc rs 8 [some (.ref r0)] [] h P := by
  refine sw_aload_n dX6_advanceWord_8 rfl ?_
  refine sw_getf dX6_advanceWord_9 lf_X6_32 hc2 hv2 ?_
  refine sw_aload_n dX6_advanceWord_12 rfl ?_
  refine sw_getf dX6_advanceWord_13 lf_X6_12 hc4 hv4 ?_
  refine sw_getf dX6_advanceWord_16 lf_X6_140 hc5 hv5 ?_
  exact sw_icmp_ge dX6_advanceWord_19 (by decide) (fun q => (kt q)) (fun q => (kf q))
theorem b_X6_advanceWord_22 {r0 : Nat} {fs2 : List Value} {a2 : Nat} {fs4 : List Value} {x4 : Int32} {v5 : Int32} {g5 : ab_H} {fs5 : List Value} {v6 : Int32} {g6 : ab_H} (hc2 : (h)[r0]? = some (6, fs2)) (hv2 : fs2[0]? = some (.ref a2)) (hc4 : (h)[r0]? = some (6, fs4)) (hv4 : fs4[4]? = some (.int x4)) (hr5 : (h)[a2]? = some (0, fs5)) (hm5 : MSE m_X0_at d [.ref a2, .int x4] h (some (.int v5)) g5) (hm6 : MSE m_X6_isLetter d [.int v5] g5 (some (.int v6)) g6) (kt : v6 = 0 → SW sc m_X6_advanceWord (d + 1) rc rs 52 [some (.ref r0)] [] g6 P) (kf : ¬ (v6 = 0) → SW sc m_X6_advanceWord (d + 1) rc rs 39 [some (.ref r0)] [] g6 P) : SW sc m_X6_advanceWord (d + 1) rc rs 22 [some (.ref r0)] [] h P := by
  refine sw_aload_n dX6_advanceWord_22 rfl ?_
  refine sw_getf dX6_advanceWord_23 lf_X6_12 hc2 hv2 ?_
  refine sw_aload_n dX6_advanceWord_26 rfl ?_
  refine sw_getf dX6_advanceWord_27 lf_X6_32 hc4 hv4 ?_
  refine sw_cV (M := m_X6_advanceWord) dX6_advanceWord_30 lv_X6_133 hm5 hr5 rfl (by decide) rfl rfl rfl (Nat.le_of_ble_eq_true rfl) (fun _ _ => rfl) rfl ?_
  show SW sc m_X6_advanceWord _ _ _ 33 [some (.ref r0)] [.int v5] g5 P
  refine sw_cS (M := m_X6_advanceWord) dX6_advanceWord_33 ls_X6_145 hm6 rfl rfl (Nat.le_of_ble_eq_true rfl) (fun _ _ => rfl) rfl ?_
  show SW sc m_X6_advanceWord _ _ _ 36 [some (.ref r0)] [.int v6] g6 P
  exact sw_if_eq dX6_advanceWord_36 (by decide) (fun q => (kt q)) (fun q => (kf q))
theorem b_X6_advanceWord_39 {r0 : Nat} {fs3 : List Value} {x3 : Int32} {fs6 : List Value} (hc3 : (h)[r0]? = some (6, fs3)) (hv3 : fs3[4]? = some (.int x3)) (hc6 : (h)[r0]? = some (6, fs6)) (hk6 : 4 < fs6.length) (k : SW sc m_X6_advanceWord d rc rs 8 [some (.ref r0)] [] ((h).set r0 (6, fs6.set 4 (.int (x3 + 1)))) P) : SW sc m_X6_advanceWord d rc rs 39 [some (.ref r0)] [] h P := by
  refine sw_aload_n dX6_advanceWord_39 rfl ?_
  refine sw_dup dX6_advanceWord_40 (fun _ _ => rfl) ?_
  refine sw_getf dX6_advanceWord_41 lf_X6_32 hc3 hv3 ?_
  refine sw_iconst (v := 1) dX6_advanceWord_44 (by decide) ?_
  refine sw_iadd dX6_advanceWord_45 ?_
  refine sw_putf dX6_advanceWord_46 lp_X6_32 hc6 hk6 (fun _ _ => ⟨rfl, rfl⟩) ?_
  exact sw_goto dX6_advanceWord_49 (by decide) (k)
theorem b_X6_advanceWord_52 {r0 : Nat} {fs3 : List Value} (hc3 : (h)[r0]? = some (6, fs3)) (hk3 : 5 < fs3.length) (hP : P (.inl none) ((h).set r0 (6, fs3.set 5 (.int 1)))) : SW sc m_X6_advanceWord d rc rs 52 [some (.ref r0)] [] h P := by
  refine sw_aload_n dX6_advanceWord_52 rfl ?_
  refine sw_iconst (v := 1) dX6_advanceWord_53 (by decide) ?_
  refine sw_putf dX6_advanceWord_54 lp_X6_46 hc3 hk3 (fun _ _ => ⟨rfl, rfl⟩) ?_
  exact sw_ret (v := none) dX6_advanceWord_57 rt_v hP
theorem b_X6_advanceNumber_0 {r0 : Nat} {fs3 : List Value} {x3 : Int32} {fs4 : List Value} {fs7 : List Value} (hc3 : (h)[r0]? = some (6, fs3)) (hv3 : fs3[3]? = some (.int x3)) (hc4 : (h)[r0]? = some (6, fs4)) (hk4 : 4 < fs4.length) (hc7 : ((h).set r0 (6, fs4.set 4 (.int x3)))[r0]? = some (6, fs7)) (hk7 : 6 < fs7.length) (k : SW sc m_X6_advanceNumber d rc rs 13 [some (.ref r0)] [] (((h).set r0 (6, fs4.set 4 (.int x3))).set r0 (6, fs7.set 6 (.int 0))) P) : SW sc m_X6_advanceNumber d rc rs 0 [some (.ref r0)] [] h P := by
  refine sw_aload_n dX6_advanceNumber_0 rfl ?_
  refine sw_aload_n dX6_advanceNumber_1 rfl ?_
  refine sw_getf dX6_advanceNumber_2 lf_X6_125 hc3 hv3 ?_
  refine sw_putf dX6_advanceNumber_5 lp_X6_32 hc4 hk4 (fun _ _ => ⟨rfl, rfl⟩) ?_
  refine sw_aload_n dX6_advanceNumber_8 rfl ?_
  refine sw_iconst (v := 0) dX6_advanceNumber_9 (by decide) ?_
  refine sw_putf dX6_advanceNumber_10 lp_X6_69 hc7 hk7 (fun _ _ => ⟨rfl, rfl⟩) ?_
  exact (k)
theorem b_X6_advanceNumber_13 {r0 : Nat} {fs2 : List Value} {x2 : Int32} {fs4 : List Value} {a4 : Nat} {fs5 : List Value} {x5 : Int32} (hc2 : (h)[r0]? = some (6, fs2)) (hv2 : fs2[4]? = some (.int x2)) (hc4 : (h)[r0]? = some (6, fs4)) (hv4 : fs4[0]? = some (.ref a4)) (hc5 : (h)[a4]? = some (0, fs5)) (hv5 : fs5[1]? = some (.int x5)) (kt : x5 ≤ x2 → SW sc m_X6_advanceNumber d rc rs 83 [some (.ref r0)] [] h P) (kf : ¬ (x5 ≤ x2) → SW sc m_X6_advanceNumber d rc rs 27 [some (.ref r0)] [] h P) : SW sc m_X6_advanceNumber d rc rs 13 [some (.ref r0)] [] h P := by
  refine sw_aload_n dX6_advanceNumber_13 rfl ?_
  refine sw_getf dX6_advanceNumber_14 lf_X6_32 hc2 hv2 ?_
  refine sw_aload_n dX6_advanceNumber_17 rfl ?_
  refine sw_getf dX6_advanceNumber_18 lf_X6_12 hc4 hv4 ?_
  refine sw_getf dX6_advanceNumber_21 lf_X6_140 hc5 hv5 ?_
  exact sw_icmp_ge dX6_advanceNumber_24 (by decide) (fun q => (kt q)) (fun q => (kf q))
theorem b_X6_advanceNumber_27 {r0 : Nat} {fs2 : List Value} {a2 : Nat} {fs4 : List Value} {x4 : Int32} {v5 : Int32} {g5 : ab_H} {fs5 : List Value} {v6 : Int32} {g6 : ab_H} (hc2 : (h)[r0]? = some (6, fs2)) (hv2 : fs2[0]? = some (.ref a2)) (hc4 : (h)[r0]? = some (6, fs4)) (hv4 : fs4[4]? = some (.int x4)) (hr5 : (h)[a2]? = some (0, fs5)) (hm5 : MSE m_X0_at d [.ref a2, .int x4] h (some (.int v5)) g5) (hm6 : MSE m_X6_isDigit d [.int v5] g5 (some (.int v6)) g6) (kt : v6 = 0 → SW sc m_X6_advanceNumber (d + 1) rc rs 83 [some (.ref r0)] [] g6 P) (kf : ¬ (v6 = 0) → SW sc m_X6_advanceNumber (d + 1) rc rs 44 [some (.ref r0)] [] g6 P) : SW sc m_X6_advanceNumber (d + 1) rc rs 27 [some (.ref r0)] [] h P := by
  refine sw_aload_n dX6_advanceNumber_27 rfl ?_
  refine sw_getf dX6_advanceNumber_28 lf_X6_12 hc2 hv2 ?_
  refine sw_aload_n dX6_advanceNumber_31 rfl ?_
  refine sw_getf dX6_advanceNumber_32 lf_X6_32 hc4 hv4 ?_
  refine sw_cV (M := m_X6_advanceNumber) dX6_advanceNumber_35 lv_X6_133 hm5 hr5 rfl (by decide) rfl rfl rfl (Nat.le_of_ble_eq_true rfl) (fun _ _ => rfl) rfl ?_
  show SW sc m_X6_advanceNumber _ _ _ 38 [some (.ref r0)] [.int v5] g5 P
  refine sw_cS (M := m_X6_advanceNumber) dX6_advanceNumber_38 ls_X6_151 hm6 rfl rfl (Nat.le_of_ble_eq_true rfl) (fun _ _ => rfl) rfl ?_
  show SW sc m_X6_advanceNumber _ _ _ 41 [some (.ref r0)] [.int v6] g6 P
  exact sw_if_eq dX6_advanceNumber_41 (by decide) (fun q => (kt q)) (fun q => (kf q))
theorem b_X6_advanceNumber_44 {r0 : Nat} {fs4 : List Value} {x4 : Int32} {fs7 : List Value} {a7 : Nat} {fs9 : List Value} {x9 : Int32} {v10 : Int32} {g10 : ab_H} {fs10 : List Value} {fs14 : List Value} {fs17 : List Value} {x17 : Int32} {fs20 : List Value} (hc4 : (h)[r0]? = some (6, fs4)) (hv4 : fs4[6]? = some (.int x4)) (hc7 : (h)[r0]? = some (6, fs7)) (hv7 : fs7[0]? = some (.ref a7)) (hc9 : (h)[r0]? = some (6, fs9)) (hv9 : fs9[4]? = some (.int x9)) (hr10 : (h)[a7]? = some (0, fs10)) (hm10 : MSE m_X0_at d [.ref a7, .int x9] h (some (.int v10)) g10) (hc14 : (g10)[r0]? = some (6, fs14)) (hk14 : 6 < fs14.length) (hc17 : ((g10).set r0 (6, fs14.set 6 (.int (((10 * x4) + v10) - 48))))[r0]? = some (6, fs17)) (hv17 : fs17[4]? = some (.int x17)) (hc20 : ((g10).set r0 (6, fs14.set 6 (.int (((10 * x4) + v10) - 48))))[r0]? = some (6, fs20)) (hk20 : 4 < fs20.length) (k : SW sc m_X6_advanceNumber (d + 1) rc rs 13 [some (.ref r0)] [] (((g10).set r0 (6, fs14.set 6 (.int (((10 * x4) + v10) - 48)))).set r0 (6, fs20.set 4 (.int (x17 + 1)))) P) : SW sc m_X6_advanceNumber (d + 1) rc rs 44 [some (.ref r0)] [] h P := by
  refine sw_aload_n dX6_advanceNumber_44 rfl ?_
  refine sw_bipush (v := 10) dX6_advanceNumber_45 (by decide) ?_
  refine sw_aload_n dX6_advanceNumber_47 rfl ?_
  refine sw_getf dX6_advanceNumber_48 lf_X6_69 hc4 hv4 ?_
  refine sw_imul dX6_advanceNumber_51 ?_
  refine sw_aload_n dX6_advanceNumber_52 rfl ?_
  refine sw_getf dX6_advanceNumber_53 lf_X6_12 hc7 hv7 ?_
  refine sw_aload_n dX6_advanceNumber_56 rfl ?_
  refine sw_getf dX6_advanceNumber_57 lf_X6_32 hc9 hv9 ?_
  refine sw_cV (M := m_X6_advanceNumber) dX6_advanceNumber_60 lv_X6_133 hm10 hr10 rfl (by decide) rfl rfl rfl (Nat.le_of_ble_eq_true rfl) (fun _ _ => rfl) rfl ?_
  show SW sc m_X6_advanceNumber _ _ _ 63 [some (.ref r0)] [.int v10, .int (10 * x4), .ref r0] g10 P
  refine sw_iadd dX6_advanceNumber_63 ?_
  refine sw_bipush (v := 48) dX6_advanceNumber_64 (by decide) ?_
  refine sw_isub dX6_advanceNumber_66 ?_
  refine sw_putf dX6_advanceNumber_67 lp_X6_69 hc14 hk14 (fun _ _ => ⟨rfl, rfl⟩) ?_
  refine sw_aload_n dX6_advanceNumber_70 rfl ?_
  refine sw_dup dX6_advanceNumber_71 (fun _ _ => rfl) ?_
  refine sw_getf dX6_advanceNumber_72 lf_X6_32 hc17 hv17 ?_
  refine sw_iconst (v := 1) dX6_advanceNumber_75 (by decide) ?_
  refine sw_iadd dX6_advanceNumber_76 ?_
  refine sw_putf dX6_advanceNumber_77 lp_X6_32 hc20 hk20 (fun _ _ => ⟨rfl, rfl⟩) ?_
  exact sw_goto dX6_advanceNumber_80 (by decide) (k)
theorem b_X6_advanceNumber_83 {r0 : Nat} {fs3 : List Value} {x3 : Int32} {fs5 : List Value} {x5 : Int32} (hc3 : (h)[r0]? = some (6, fs3)) (hv3 : fs3[4]? = some (.int x3)) (hc5 : (h)[r0]? = some (6, fs5)) (hv5 : fs5[3]? = some (.int x5)) (kt : (x3 - x5) ≤ 2 → SW sc m_X6_advanceNumber d rc rs 101 [none] [.ref r0] h P) (kf : ¬ ((x3 - x5) ≤ 2) → SW sc m_X6_advanceNumber d rc rs 97 [none] [.ref r0] h P) : SW sc m_X6_advanceNumber d rc rs 83 [some (.ref r0)] [] h P := by
  refine sw_aload_n dX6_advanceNumber_83 rfl ?_
  refine sw_aload_n dX6_advanceNumber_84 rfl ?_
  refine sw_getf dX6_advanceNumber_85 lf_X6_32 hc3 hv3 ?_
  refine sw_aload_n dX6_advanceNumber_88 rfl ?_
  refine sw_getf dX6_advanceNumber_89 lf_X6_125 hc5 hv5 ?_
  refine sw_isub dX6_advanceNumber_92 ?_
  refine sw_iconst (v := 2) dX6_advanceNumber_93 (by decide) ?_
  exact sw_icmp_le dX6_advanceNumber_94 (by decide) (fun q => (sw_fg [true] rfl (kt q))) (fun q => (sw_fg [true] rfl (kf q)))
theorem b_X6_advanceNumber_97 {q0 : Nat} (k : SW sc m_X6_advanceNumber d rc rs 102 [none] [.int 4, .ref q0] h P) : SW sc m_X6_advanceNumber d rc rs 97 [none] [.ref q0] h P := by
  refine sw_iconst (v := 4) dX6_advanceNumber_97 (by decide) ?_
  exact sw_goto dX6_advanceNumber_98 (by decide) (k)
theorem b_X6_advanceNumber_101 {q0 : Nat} (k : SW sc m_X6_advanceNumber d rc rs 102 [none] [.int 2, .ref q0] h P) : SW sc m_X6_advanceNumber d rc rs 101 [none] [.ref q0] h P := by
  refine sw_iconst (v := 2) dX6_advanceNumber_101 (by decide) ?_
  exact (k)
theorem b_X6_advanceNumber_102 {q0 : Nat} {s1 : Int32} {fs1 : List Value} (hc1 : (h)[q0]? = some (6, fs1)) (hk1 : 5 < fs1.length) (hP : P (.inl none) ((h).set q0 (6, fs1.set 5 (.int s1)))) : SW sc m_X6_advanceNumber d rc rs 102 [none] [.int s1, .ref q0] h P := by
  refine sw_putf dX6_advanceNumber_102 lp_X6_46 hc1 hk1 (fun _ _ => ⟨rfl, rfl⟩) ?_
  exact sw_ret (v := none) dX6_advanceNumber_105 rt_v hP
theorem b_X6_isBlank_0 {l0 : Int32} (kt : l0 = 32 → SW sc m_X6_isBlank d rc rs 12 [none] [] h P) (kf : ¬ (l0 = 32) → SW sc m_X6_isBlank d rc rs 6 [some (.int l0)] [] h P) : SW sc m_X6_isBlank d rc rs 0 [some (.int l0)] [] h P := by
  refine sw_iload_n dX6_isBlank_0 rfl ?_
  refine sw_bipush (v := 32) dX6_isBlank_1 (by decide) ?_
  exact sw_icmp_eq dX6_isBlank_3 (by decide) (fun q => (sw_fg [true] rfl (kt q))) (fun q => (kf q))
theorem b_X6_isBlank_6 {l0 : Int32} (kt : ¬ l0 = 10 → SW sc m_X6_isBlank d rc rs 16 [none] [] h P) (kf : l0 = 10 → SW sc m_X6_isBlank d rc rs 12 [none] [] h P) : SW sc m_X6_isBlank d rc rs 6 [some (.int l0)] [] h P := by
  refine sw_iload_n dX6_isBlank_6 rfl ?_
  refine sw_bipush (v := 10) dX6_isBlank_7 (by decide) ?_
  exact sw_icmp_ne dX6_isBlank_9 (by decide) (fun q => (sw_fg [true] rfl (kt q))) (fun q => (sw_fg [true] rfl (kf q)))
theorem b_X6_isBlank_12  (k : SW sc m_X6_isBlank d rc rs 17 [none] [.int 1] h P) : SW sc m_X6_isBlank d rc rs 12 [none] [] h P := by
  refine sw_iconst (v := 1) dX6_isBlank_12 (by decide) ?_
  exact sw_goto dX6_isBlank_13 (by decide) (k)
theorem b_X6_isBlank_16  (k : SW sc m_X6_isBlank d rc rs 17 [none] [.int 0] h P) : SW sc m_X6_isBlank d rc rs 16 [none] [] h P := by
  refine sw_iconst (v := 0) dX6_isBlank_16 (by decide) ?_
  exact (k)
theorem b_X6_isBlank_17 {s0 : Int32} (hz1 : narrow .boolean (.int s0) = .int s0) (hP : P (.inl (some (.int s0))) h) : SW sc m_X6_isBlank d rc rs 17 [none] [.int s0] h P := by
  exact sw_ret (v := (some (.int s0))) dX6_isBlank_17 (rt_n hz1) hP
theorem b_X6_isLetter_0 {l0 : Int32} (kt : l0 < 97 → SW sc m_X6_isLetter d rc rs 16 [none] [] h P) (kf : ¬ (l0 < 97) → SW sc m_X6_isLetter d rc rs 6 [some (.int l0)] [] h P) : SW sc m_X6_isLetter d rc rs 0 [some (.int l0)] [] h P := by
  refine sw_iload_n dX6_isLetter_0 rfl ?_
  refine sw_bipush (v := 97) dX6_isLetter_1 (by decide) ?_
  exact sw_icmp_lt dX6_isLetter_3 (by decide) (fun q => (sw_fg [true] rfl (kt q))) (fun q => (kf q))
theorem b_X6_isLetter_6 {l0 : Int32} (kt : 122 < l0 → SW sc m_X6_isLetter d rc rs 16 [none] [] h P) (kf : ¬ (122 < l0) → SW sc m_X6_isLetter d rc rs 12 [none] [] h P) : SW sc m_X6_isLetter d rc rs 6 [some (.int l0)] [] h P := by
  refine sw_iload_n dX6_isLetter_6 rfl ?_
  refine sw_bipush (v := 122) dX6_isLetter_7 (by decide) ?_
  exact sw_icmp_gt dX6_isLetter_9 (by decide) (fun q => (sw_fg [true] rfl (kt q))) (fun q => (sw_fg [true] rfl (kf q)))
theorem b_X6_isLetter_12  (k : SW sc m_X6_isLetter d rc rs 17 [none] [.int 1] h P) : SW sc m_X6_isLetter d rc rs 12 [none] [] h P := by
  refine sw_iconst (v := 1) dX6_isLetter_12 (by decide) ?_
  exact sw_goto dX6_isLetter_13 (by decide) (k)
theorem b_X6_isLetter_16  (k : SW sc m_X6_isLetter d rc rs 17 [none] [.int 0] h P) : SW sc m_X6_isLetter d rc rs 16 [none] [] h P := by
  refine sw_iconst (v := 0) dX6_isLetter_16 (by decide) ?_
  exact (k)
theorem b_X6_isLetter_17 {s0 : Int32} (hz1 : narrow .boolean (.int s0) = .int s0) (hP : P (.inl (some (.int s0))) h) : SW sc m_X6_isLetter d rc rs 17 [none] [.int s0] h P := by
  exact sw_ret (v := (some (.int s0))) dX6_isLetter_17 (rt_n hz1) hP
theorem b_X6_isDigit_0 {l0 : Int32} (kt : l0 < 48 → SW sc m_X6_isDigit d rc rs 16 [none] [] h P) (kf : ¬ (l0 < 48) → SW sc m_X6_isDigit d rc rs 6 [some (.int l0)] [] h P) : SW sc m_X6_isDigit d rc rs 0 [some (.int l0)] [] h P := by
  refine sw_iload_n dX6_isDigit_0 rfl ?_
  refine sw_bipush (v := 48) dX6_isDigit_1 (by decide) ?_
  exact sw_icmp_lt dX6_isDigit_3 (by decide) (fun q => (sw_fg [true] rfl (kt q))) (fun q => (kf q))
theorem b_X6_isDigit_6 {l0 : Int32} (kt : 57 < l0 → SW sc m_X6_isDigit d rc rs 16 [none] [] h P) (kf : ¬ (57 < l0) → SW sc m_X6_isDigit d rc rs 12 [none] [] h P) : SW sc m_X6_isDigit d rc rs 6 [some (.int l0)] [] h P := by
  refine sw_iload_n dX6_isDigit_6 rfl ?_
  refine sw_bipush (v := 57) dX6_isDigit_7 (by decide) ?_
  exact sw_icmp_gt dX6_isDigit_9 (by decide) (fun q => (sw_fg [true] rfl (kt q))) (fun q => (sw_fg [true] rfl (kf q)))
theorem b_X6_isDigit_12  (k : SW sc m_X6_isDigit d rc rs 17 [none] [.int 1] h P) : SW sc m_X6_isDigit d rc rs 12 [none] [] h P := by
  refine sw_iconst (v := 1) dX6_isDigit_12 (by decide) ?_
  exact sw_goto dX6_isDigit_13 (by decide) (k)
theorem b_X6_isDigit_16  (k : SW sc m_X6_isDigit d rc rs 17 [none] [.int 0] h P) : SW sc m_X6_isDigit d rc rs 16 [none] [] h P := by
  refine sw_iconst (v := 0) dX6_isDigit_16 (by decide) ?_
  exact (k)
theorem b_X6_isDigit_17 {s0 : Int32} (hz1 : narrow .boolean (.int s0) = .int s0) (hP : P (.inl (some (.int s0))) h) : SW sc m_X6_isDigit d rc rs 17 [none] [.int s0] h P := by
  exact sw_ret (v := (some (.int s0))) dX6_isDigit_17 (rt_n hz1) hP
theorem b_J6_numberOfTrailingZeros_0f7a4_0 {l0 : Int32} (kt : 0 < ((l0 ^^^ (-1)) &&& (l0 - 1)) → SW sc m_J6_numberOfTrailingZeros_0f7a4 d rc rs 17 [some (.int ((l0 ^^^ (-1)) &&& (l0 - 1))), none] [] h P) (kf : ¬ (0 < ((l0 ^^^ (-1)) &&& (l0 - 1))) → SW sc m_J6_numberOfTrailingZeros_0f7a4 d rc rs 12 [some (.int ((l0 ^^^ (-1)) &&& (l0 - 1))), none] [] h P) : SW sc m_J6_numberOfTrailingZeros_0f7a4 d rc rs 0 [some (.int l0), none] [] h P := by
  refine sw_iload_n dJ6_numberOfTrailingZeros_0f7a4_0 rfl ?_
  refine sw_iconst (v := (-1)) dJ6_numberOfTrailingZeros_0f7a4_1 (by decide) ?_
  refine sw_ixor dJ6_numberOfTrailingZeros_0f7a4_2 ?_
  refine sw_iload_n dJ6_numberOfTrailingZeros_0f7a4_3 rfl ?_
  refine sw_iconst (v := 1) dJ6_numberOfTrailingZeros_0f7a4_4 (by decide) ?_
  refine sw_isub dJ6_numberOfTrailingZeros_0f7a4_5 ?_
  refine sw_iand dJ6_numberOfTrailingZeros_0f7a4_6 ?_
  refine sw_istore_n dJ6_numberOfTrailingZeros_0f7a4_7 (by decide) rfl ?_
  show SW sc m_J6_numberOfTrailingZeros_0f7a4 _ _ _ 8 [some (.int ((l0 ^^^ (-1)) &&& (l0 - 1))), none] [] h P
  refine sw_iload_n dJ6_numberOfTrailingZeros_0f7a4_8 rfl ?_
  exact sw_if_gt dJ6_numberOfTrailingZeros_0f7a4_9 (by decide) (fun q => (kt q)) (fun q => (kf q))
theorem b_J6_numberOfTrailingZeros_0f7a4_12 {l0 : Int32} (hP : P (.inl (some (.int (l0 &&& 32)))) h) : SW sc m_J6_numberOfTrailingZeros_0f7a4 d rc rs 12 [some (.int l0), none] [] h P := by
  refine sw_iload_n dJ6_numberOfTrailingZeros_0f7a4_12 rfl ?_
  refine sw_bipush (v := 32) dJ6_numberOfTrailingZeros_0f7a4_13 (by decide) ?_
  refine sw_iand dJ6_numberOfTrailingZeros_0f7a4_15 ?_
  exact sw_ret (v := (some (.int (l0 &&& 32)))) dJ6_numberOfTrailingZeros_0f7a4_16 rt_i hP
theorem b_J6_numberOfTrailingZeros_0f7a4_17 {l0 : Int32} (kt : l0 ≤ 65536 → SW sc m_J6_numberOfTrailingZeros_0f7a4 d rc rs 34 [some (.int l0), some (.int 1)] [] h P) (kf : ¬ (l0 ≤ 65536) → SW sc m_J6_numberOfTrailingZeros_0f7a4 d rc rs 26 [some (.int l0), some (.int 1)] [] h P) : SW sc m_J6_numberOfTrailingZeros_0f7a4 d rc rs 17 [some (.int l0), none] [] h P := by
  refine sw_iconst (v := 1) dJ6_numberOfTrailingZeros_0f7a4_17 (by decide) ?_
  refine sw_istore_n dJ6_numberOfTrailingZeros_0f7a4_18 (by decide) rfl ?_
  show SW sc m_J6_numberOfTrailingZeros_0f7a4 _ _ _ 19 [some (.int l0), some (.int 1)] [] h P
  refine sw_iload_n dJ6_numberOfTrailingZeros_0f7a4_19 rfl ?_
  refine sw_ldcIw dJ6_numberOfTrailingZeros_0f7a4_20 ct_J6_264 ?_
  exact sw_icmp_le dJ6_numberOfTrailingZeros_0f7a4_23 (by decide) (fun q => (kt q)) (fun q => (kf q))
theorem b_J6_numberOfTrailingZeros_0f7a4_26 {l0 : Int32} {l1 : Int32} (k : SW sc m_J6_numberOfTrailingZeros_0f7a4 d rc rs 34 [some (.int ((l0.toUInt32 >>> ((16 : Int32).toUInt32 &&& Int32.toUInt32 31)).toInt32)), some (.int (l1 + 16))] [] h P) : SW sc m_J6_numberOfTrailingZeros_0f7a4 d rc rs 26 [some (.int l0), some (.int l1)] [] h P := by
  refine sw_iinc (v := l1 + 16) dJ6_numberOfTrailingZeros_0f7a4_26 rfl rfl (by decide) rfl ?_
  show SW sc m_J6_numberOfTrailingZeros_0f7a4 _ _ _ 29 [some (.int l0), some (.int (l1 + 16))] [] h P
  refine sw_iload_n dJ6_numberOfTrailingZeros_0f7a4_29 rfl ?_
  refine sw_bipush (v := 16) dJ6_numberOfTrailingZeros_0f7a4_30 (by decide) ?_
  refine sw_iushr dJ6_numberOfTrailingZeros_0f7a4_32 ?_
  refine sw_istore_n dJ6_numberOfTrailingZeros_0f7a4_33 (by decide) rfl ?_
  show SW sc m_J6_numberOfTrailingZeros_0f7a4 _ _ _ 34 [some (.int ((l0.toUInt32 >>> ((16 : Int32).toUInt32 &&& Int32.toUInt32 31)).toInt32)), some (.int (l1 + 16))] [] h P
  exact (k)
theorem b_J6_numberOfTrailingZeros_0f7a4_34 {l0 : Int32} {l1 : Int32} (kt : l0 ≤ 256 → SW sc m_J6_numberOfTrailingZeros_0f7a4 d rc rs 49 [some (.int l0), some (.int l1)] [] h P) (kf : ¬ (l0 ≤ 256) → SW sc m_J6_numberOfTrailingZeros_0f7a4 d rc rs 41 [some (.int l0), some (.int l1)] [] h P) : SW sc m_J6_numberOfTrailingZeros_0f7a4 d rc rs 34 [some (.int l0), some (.int l1)] [] h P := by
  refine sw_iload_n dJ6_numberOfTrailingZeros_0f7a4_34 rfl ?_
  refine sw_sipush (v := 256) dJ6_numberOfTrailingZeros_0f7a4_35 (by decide) ?_
  exact sw_icmp_le dJ6_numberOfTrailingZeros_0f7a4_38 (by decide) (fun q => (kt q)) (fun q => (kf q))
theorem b_J6_numberOfTrailingZeros_0f7a4_41 {l0 : Int32} {l1 : Int32} (k : SW sc m_J6_numberOfTrailingZeros_0f7a4 d rc rs 49 [some (.int ((l0.toUInt32 >>> ((8 : Int32).toUInt32 &&& Int32.toUInt32 31)).toInt32)), some (.int (l1 + 8))] [] h P) : SW sc m_J6_numberOfTrailingZeros_0f7a4 d rc rs 41 [some (.int l0), some (.int l1)] [] h P := by
  refine sw_iinc (v := l1 + 8) dJ6_numberOfTrailingZeros_0f7a4_41 rfl rfl (by decide) rfl ?_
  show SW sc m_J6_numberOfTrailingZeros_0f7a4 _ _ _ 44 [some (.int l0), some (.int (l1 + 8))] [] h P
  refine sw_iload_n dJ6_numberOfTrailingZeros_0f7a4_44 rfl ?_
  refine sw_bipush (v := 8) dJ6_numberOfTrailingZeros_0f7a4_45 (by decide) ?_
  refine sw_iushr dJ6_numberOfTrailingZeros_0f7a4_47 ?_
  refine sw_istore_n dJ6_numberOfTrailingZeros_0f7a4_48 (by decide) rfl ?_
  show SW sc m_J6_numberOfTrailingZeros_0f7a4 _ _ _ 49 [some (.int ((l0.toUInt32 >>> ((8 : Int32).toUInt32 &&& Int32.toUInt32 31)).toInt32)), some (.int (l1 + 8))] [] h P
  exact (k)
theorem b_J6_numberOfTrailingZeros_0f7a4_49 {l0 : Int32} {l1 : Int32} (kt : l0 ≤ 16 → SW sc m_J6_numberOfTrailingZeros_0f7a4 d rc rs 62 [some (.int l0), some (.int l1)] [] h P) (kf : ¬ (l0 ≤ 16) → SW sc m_J6_numberOfTrailingZeros_0f7a4 d rc rs 55 [some (.int l0), some (.int l1)] [] h P) : SW sc m_J6_numberOfTrailingZeros_0f7a4 d rc rs 49 [some (.int l0), some (.int l1)] [] h P := by
  refine sw_iload_n dJ6_numberOfTrailingZeros_0f7a4_49 rfl ?_
  refine sw_bipush (v := 16) dJ6_numberOfTrailingZeros_0f7a4_50 (by decide) ?_
  exact sw_icmp_le dJ6_numberOfTrailingZeros_0f7a4_52 (by decide) (fun q => (kt q)) (fun q => (kf q))
theorem b_J6_numberOfTrailingZeros_0f7a4_55 {l0 : Int32} {l1 : Int32} (k : SW sc m_J6_numberOfTrailingZeros_0f7a4 d rc rs 62 [some (.int ((l0.toUInt32 >>> ((4 : Int32).toUInt32 &&& Int32.toUInt32 31)).toInt32)), some (.int (l1 + 4))] [] h P) : SW sc m_J6_numberOfTrailingZeros_0f7a4 d rc rs 55 [some (.int l0), some (.int l1)] [] h P := by
  refine sw_iinc (v := l1 + 4) dJ6_numberOfTrailingZeros_0f7a4_55 rfl rfl (by decide) rfl ?_
  show SW sc m_J6_numberOfTrailingZeros_0f7a4 _ _ _ 58 [some (.int l0), some (.int (l1 + 4))] [] h P
  refine sw_iload_n dJ6_numberOfTrailingZeros_0f7a4_58 rfl ?_
  refine sw_iconst (v := 4) dJ6_numberOfTrailingZeros_0f7a4_59 (by decide) ?_
  refine sw_iushr dJ6_numberOfTrailingZeros_0f7a4_60 ?_
  refine sw_istore_n dJ6_numberOfTrailingZeros_0f7a4_61 (by decide) rfl ?_
  show SW sc m_J6_numberOfTrailingZeros_0f7a4 _ _ _ 62 [some (.int ((l0.toUInt32 >>> ((4 : Int32).toUInt32 &&& Int32.toUInt32 31)).toInt32)), some (.int (l1 + 4))] [] h P
  exact (k)
theorem b_J6_numberOfTrailingZeros_0f7a4_62 {l0 : Int32} {l1 : Int32} (kt : l0 ≤ 4 → SW sc m_J6_numberOfTrailingZeros_0f7a4 d rc rs 74 [some (.int l0), some (.int l1)] [] h P) (kf : ¬ (l0 ≤ 4) → SW sc m_J6_numberOfTrailingZeros_0f7a4 d rc rs 67 [some (.int l0), some (.int l1)] [] h P) : SW sc m_J6_numberOfTrailingZeros_0f7a4 d rc rs 62 [some (.int l0), some (.int l1)] [] h P := by
  refine sw_iload_n dJ6_numberOfTrailingZeros_0f7a4_62 rfl ?_
  refine sw_iconst (v := 4) dJ6_numberOfTrailingZeros_0f7a4_63 (by decide) ?_
  exact sw_icmp_le dJ6_numberOfTrailingZeros_0f7a4_64 (by decide) (fun q => (kt q)) (fun q => (kf q))
theorem b_J6_numberOfTrailingZeros_0f7a4_67 {l0 : Int32} {l1 : Int32} (k : SW sc m_J6_numberOfTrailingZeros_0f7a4 d rc rs 74 [some (.int ((l0.toUInt32 >>> ((2 : Int32).toUInt32 &&& Int32.toUInt32 31)).toInt32)), some (.int (l1 + 2))] [] h P) : SW sc m_J6_numberOfTrailingZeros_0f7a4 d rc rs 67 [some (.int l0), some (.int l1)] [] h P := by
  refine sw_iinc (v := l1 + 2) dJ6_numberOfTrailingZeros_0f7a4_67 rfl rfl (by decide) rfl ?_
  show SW sc m_J6_numberOfTrailingZeros_0f7a4 _ _ _ 70 [some (.int l0), some (.int (l1 + 2))] [] h P
  refine sw_iload_n dJ6_numberOfTrailingZeros_0f7a4_70 rfl ?_
  refine sw_iconst (v := 2) dJ6_numberOfTrailingZeros_0f7a4_71 (by decide) ?_
  refine sw_iushr dJ6_numberOfTrailingZeros_0f7a4_72 ?_
  refine sw_istore_n dJ6_numberOfTrailingZeros_0f7a4_73 (by decide) rfl ?_
  show SW sc m_J6_numberOfTrailingZeros_0f7a4 _ _ _ 74 [some (.int ((l0.toUInt32 >>> ((2 : Int32).toUInt32 &&& Int32.toUInt32 31)).toInt32)), some (.int (l1 + 2))] [] h P
  exact (k)
theorem b_J6_numberOfTrailingZeros_0f7a4_74 {l0 : Int32} {l1 : Int32} (hP : P (.inl (some (.int (l1 + ((l0.toUInt32 >>> ((1 : Int32).toUInt32 &&& Int32.toUInt32 31)).toInt32))))) h) : SW sc m_J6_numberOfTrailingZeros_0f7a4 d rc rs 74 [some (.int l0), some (.int l1)] [] h P := by
  refine sw_iload_n dJ6_numberOfTrailingZeros_0f7a4_74 rfl ?_
  refine sw_iload_n dJ6_numberOfTrailingZeros_0f7a4_75 rfl ?_
  refine sw_iconst (v := 1) dJ6_numberOfTrailingZeros_0f7a4_76 (by decide) ?_
  refine sw_iushr dJ6_numberOfTrailingZeros_0f7a4_77 ?_
  refine sw_iadd dJ6_numberOfTrailingZeros_0f7a4_78 ?_
  exact sw_ret (v := (some (.int (l1 + ((l0.toUInt32 >>> ((1 : Int32).toUInt32 &&& Int32.toUInt32 31)).toInt32))))) dJ6_numberOfTrailingZeros_0f7a4_79 rt_i hP
theorem b_J6_bitCount_0f7a4_0 {l0 : Int32} (hP : P (.inl (some (.int ((((((((l0 - (((l0.toUInt32 >>> ((1 : Int32).toUInt32 &&& Int32.toUInt32 31)).toInt32) &&& 1431655765)) &&& 858993459) + ((((l0 - (((l0.toUInt32 >>> ((1 : Int32).toUInt32 &&& Int32.toUInt32 31)).toInt32) &&& 1431655765)).toUInt32 >>> ((2 : Int32).toUInt32 &&& Int32.toUInt32 31)).toInt32) &&& 858993459)) + (((((l0 - (((l0.toUInt32 >>> ((1 : Int32).toUInt32 &&& Int32.toUInt32 31)).toInt32) &&& 1431655765)) &&& 858993459) + ((((l0 - (((l0.toUInt32 >>> ((1 : Int32).toUInt32 &&& Int32.toUInt32 31)).toInt32) &&& 1431655765)).toUInt32 >>> ((2 : Int32).toUInt32 &&& Int32.toUInt32 31)).toInt32) &&& 858993459)).toUInt32 >>> ((4 : Int32).toUInt32 &&& Int32.toUInt32 31)).toInt32)) &&& 252645135) + (((((((l0 - (((l0.toUInt32 >>> ((1 : Int32).toUInt32 &&& Int32.toUInt32 31)).toInt32) &&& 1431655765)) &&& 858993459) + ((((l0 - (((l0.toUInt32 >>> ((1 : Int32).toUInt32 &&& Int32.toUInt32 31)).toInt32) &&& 1431655765)).toUInt32 >>> ((2 : Int32).toUInt32 &&& Int32.toUInt32 31)).toInt32) &&& 858993459)) + (((((l0 - (((l0.toUInt32 >>> ((1 : Int32).toUInt32 &&& Int32.toUInt32 31)).toInt32) &&& 1431655765)) &&& 858993459) + ((((l0 - (((l0.toUInt32 >>> ((1 : Int32).toUInt32 &&& Int32.toUInt32 31)).toInt32) &&& 1431655765)).toUInt32 >>> ((2 : Int32).toUInt32 &&& Int32.toUInt32 31)).toInt32) &&& 858993459)).toUInt32 >>> ((4 : Int32).toUInt32 &&& Int32.toUInt32 31)).toInt32)) &&& 252645135).toUInt32 >>> ((8 : Int32).toUInt32 &&& Int32.toUInt32 31)).toInt32)) + ((((((((l0 - (((l0.toUInt32 >>> ((1 : Int32).toUInt32 &&& Int32.toUInt32 31)).toInt32) &&& 1431655765)) &&& 858993459) + ((((l0 - (((l0.toUInt32 >>> ((1 : Int32).toUInt32 &&& Int32.toUInt32 31)).toInt32) &&& 1431655765)).toUInt32 >>> ((2 : Int32).toUInt32 &&& Int32.toUInt32 31)).toInt32) &&& 858993459)) + (((((l0 - (((l0.toUInt32 >>> ((1 : Int32).toUInt32 &&& Int32.toUInt32 31)).toInt32) &&& 1431655765)) &&& 858993459) + ((((l0 - (((l0.toUInt32 >>> ((1 : Int32).toUInt32 &&& Int32.toUInt32 31)).toInt32) &&& 1431655765)).toUInt32 >>> ((2 : Int32).toUInt32 &&& Int32.toUInt32 31)).toInt32) &&& 858993459)).toUInt32 >>> ((4 : Int32).toUInt32 &&& Int32.toUInt32 31)).toInt32)) &&& 252645135) + (((((((l0 - (((l0.toUInt32 >>> ((1 : Int32).toUInt32 &&& Int32.toUInt32 31)).toInt32) &&& 1431655765)) &&& 858993459) + ((((l0 - (((l0.toUInt32 >>> ((1 : Int32).toUInt32 &&& Int32.toUInt32 31)).toInt32) &&& 1431655765)).toUInt32 >>> ((2 : Int32).toUInt32 &&& Int32.toUInt32 31)).toInt32) &&& 858993459)) + (((((l0 - (((l0.toUInt32 >>> ((1 : Int32).toUInt32 &&& Int32.toUInt32 31)).toInt32) &&& 1431655765)) &&& 858993459) + ((((l0 - (((l0.toUInt32 >>> ((1 : Int32).toUInt32 &&& Int32.toUInt32 31)).toInt32) &&& 1431655765)).toUInt32 >>> ((2 : Int32).toUInt32 &&& Int32.toUInt32 31)).toInt32) &&& 858993459)).toUInt32 >>> ((4 : Int32).toUInt32 &&& Int32.toUInt32 31)).toInt32)) &&& 252645135).toUInt32 >>> ((8 : Int32).toUInt32 &&& Int32.toUInt32 31)).toInt32)).toUInt32 >>> ((16 : Int32).toUInt32 &&& Int32.toUInt32 31)).toInt32)) &&& 63)))) h) : SW sc m_J6_bitCount_0f7a4 d rc rs 0 [some (.int l0)] [] h P := by
  refine sw_iload_n dJ6_bitCount_0f7a4_0 rfl ?_
  refine sw_iload_n dJ6_bitCount_0f7a4_1 rfl ?_
  refine sw_iconst (v := 1) dJ6_bitCount_0f7a4_2 (by decide) ?_
  refine sw_iushr dJ6_bitCount_0f7a4_3 ?_
  refine sw_ldcIw dJ6_bitCount_0f7a4_4 ct_J6_265 ?_
  refine sw_iand dJ6_bitCount_0f7a4_7 ?_
  refine sw_isub dJ6_bitCount_0f7a4_8 ?_
  refine sw_istore_n dJ6_bitCount_0f7a4_9 (by decide) rfl ?_
  show SW sc m_J6_bitCount_0f7a4 _ _ _ 10 [some (.int (l0 - (((l0.toUInt32 >>> ((1 : Int32).toUInt32 &&& Int32.toUInt32 31)).toInt32) &&& 1431655765)))] [] h P
  refine sw_iload_n dJ6_bitCount_0f7a4_10 rfl ?_
  refine sw_ldcIw dJ6_bitCount_0f7a4_11 ct_J6_266 ?_
  refine sw_iand dJ6_bitCount_0f7a4_14 ?_
  refine sw_iload_n dJ6_bitCount_0f7a4_15 rfl ?_
  refine sw_iconst (v := 2) dJ6_bitCount_0f7a4_16 (by decide) ?_
  refine sw_iushr dJ6_bitCount_0f7a4_17 ?_
  refine sw_ldcIw dJ6_bitCount_0f7a4_18 ct_J6_266 ?_
  refine sw_iand dJ6_bitCount_0f7a4_21 ?_
  refine sw_iadd dJ6_bitCount_0f7a4_22 ?_
  refine sw_istore_n dJ6_bitCount_0f7a4_23 (by decide) rfl ?_
  show SW sc m_J6_bitCount_0f7a4 _ _ _ 24 [some (.int (((l0 - (((l0.toUInt32 >>> ((1 : Int32).toUInt32 &&& Int32.toUInt32 31)).toInt32) &&& 1431655765)) &&& 858993459) + ((((l0 - (((l0.toUInt32 >>> ((1 : Int32).toUInt32 &&& Int32.toUInt32 31)).toInt32) &&& 1431655765)).toUInt32 >>> ((2 : Int32).toUInt32 &&& Int32.toUInt32 31)).toInt32) &&& 858993459)))] [] h P
  refine sw_iload_n dJ6_bitCount_0f7a4_24 rfl ?_
  refine sw_iload_n dJ6_bitCount_0f7a4_25 rfl ?_
  refine sw_iconst (v := 4) dJ6_bitCount_0f7a4_26 (by decide) ?_
  refine sw_iushr dJ6_bitCount_0f7a4_27 ?_
  refine sw_iadd dJ6_bitCount_0f7a4_28 ?_
  refine sw_ldcIw dJ6_bitCount_0f7a4_29 ct_J6_267 ?_
  refine sw_iand dJ6_bitCount_0f7a4_32 ?_
  refine sw_istore_n dJ6_bitCount_0f7a4_33 (by decide) rfl ?_
  show SW sc m_J6_bitCount_0f7a4 _ _ _ 34 [some (.int (((((l0 - (((l0.toUInt32 >>> ((1 : Int32).toUInt32 &&& Int32.toUInt32 31)).toInt32) &&& 1431655765)) &&& 858993459) + ((((l0 - (((l0.toUInt32 >>> ((1 : Int32).toUInt32 &&& Int32.toUInt32 31)).toInt32) &&& 1431655765)).toUInt32 >>> ((2 : Int32).toUInt32 &&& Int32.toUInt32 31)).toInt32) &&& 858993459)) + (((((l0 - (((l0.toUInt32 >>> ((1 : Int32).toUInt32 &&& Int32.toUInt32 31)).toInt32) &&& 1431655765)) &&& 858993459) + ((((l0 - (((l0.toUInt32 >>> ((1 : Int32).toUInt32 &&& Int32.toUInt32 31)).toInt32) &&& 1431655765)).toUInt32 >>> ((2 : Int32).toUInt32 &&& Int32.toUInt32 31)).toInt32) &&& 858993459)).toUInt32 >>> ((4 : Int32).toUInt32 &&& Int32.toUInt32 31)).toInt32)) &&& 252645135))] [] h P
  refine sw_iload_n dJ6_bitCount_0f7a4_34 rfl ?_
  refine sw_iload_n dJ6_bitCount_0f7a4_35 rfl ?_
  refine sw_bipush (v := 8) dJ6_bitCount_0f7a4_36 (by decide) ?_
  refine sw_iushr dJ6_bitCount_0f7a4_38 ?_
  refine sw_iadd dJ6_bitCount_0f7a4_39 ?_
  refine sw_istore_n dJ6_bitCount_0f7a4_40 (by decide) rfl ?_
  show SW sc m_J6_bitCount_0f7a4 _ _ _ 41 [some (.int ((((((l0 - (((l0.toUInt32 >>> ((1 : Int32).toUInt32 &&& Int32.toUInt32 31)).toInt32) &&& 1431655765)) &&& 858993459) + ((((l0 - (((l0.toUInt32 >>> ((1 : Int32).toUInt32 &&& Int32.toUInt32 31)).toInt32) &&& 1431655765)).toUInt32 >>> ((2 : Int32).toUInt32 &&& Int32.toUInt32 31)).toInt32) &&& 858993459)) + (((((l0 - (((l0.toUInt32 >>> ((1 : Int32).toUInt32 &&& Int32.toUInt32 31)).toInt32) &&& 1431655765)) &&& 858993459) + ((((l0 - (((l0.toUInt32 >>> ((1 : Int32).toUInt32 &&& Int32.toUInt32 31)).toInt32) &&& 1431655765)).toUInt32 >>> ((2 : Int32).toUInt32 &&& Int32.toUInt32 31)).toInt32) &&& 858993459)).toUInt32 >>> ((4 : Int32).toUInt32 &&& Int32.toUInt32 31)).toInt32)) &&& 252645135) + (((((((l0 - (((l0.toUInt32 >>> ((1 : Int32).toUInt32 &&& Int32.toUInt32 31)).toInt32) &&& 1431655765)) &&& 858993459) + ((((l0 - (((l0.toUInt32 >>> ((1 : Int32).toUInt32 &&& Int32.toUInt32 31)).toInt32) &&& 1431655765)).toUInt32 >>> ((2 : Int32).toUInt32 &&& Int32.toUInt32 31)).toInt32) &&& 858993459)) + (((((l0 - (((l0.toUInt32 >>> ((1 : Int32).toUInt32 &&& Int32.toUInt32 31)).toInt32) &&& 1431655765)) &&& 858993459) + ((((l0 - (((l0.toUInt32 >>> ((1 : Int32).toUInt32 &&& Int32.toUInt32 31)).toInt32) &&& 1431655765)).toUInt32 >>> ((2 : Int32).toUInt32 &&& Int32.toUInt32 31)).toInt32) &&& 858993459)).toUInt32 >>> ((4 : Int32).toUInt32 &&& Int32.toUInt32 31)).toInt32)) &&& 252645135).toUInt32 >>> ((8 : Int32).toUInt32 &&& Int32.toUInt32 31)).toInt32)))] [] h P
  refine sw_iload_n dJ6_bitCount_0f7a4_41 rfl ?_
  refine sw_iload_n dJ6_bitCount_0f7a4_42 rfl ?_
  refine sw_bipush (v := 16) dJ6_bitCount_0f7a4_43 (by decide) ?_
  refine sw_iushr dJ6_bitCount_0f7a4_45 ?_
  refine sw_iadd dJ6_bitCount_0f7a4_46 ?_
  refine sw_istore_n dJ6_bitCount_0f7a4_47 (by decide) rfl ?_
  show SW sc m_J6_bitCount_0f7a4 _ _ _ 48 [some (.int (((((((l0 - (((l0.toUInt32 >>> ((1 : Int32).toUInt32 &&& Int32.toUInt32 31)).toInt32) &&& 1431655765)) &&& 858993459) + ((((l0 - (((l0.toUInt32 >>> ((1 : Int32).toUInt32 &&& Int32.toUInt32 31)).toInt32) &&& 1431655765)).toUInt32 >>> ((2 : Int32).toUInt32 &&& Int32.toUInt32 31)).toInt32) &&& 858993459)) + (((((l0 - (((l0.toUInt32 >>> ((1 : Int32).toUInt32 &&& Int32.toUInt32 31)).toInt32) &&& 1431655765)) &&& 858993459) + ((((l0 - (((l0.toUInt32 >>> ((1 : Int32).toUInt32 &&& Int32.toUInt32 31)).toInt32) &&& 1431655765)).toUInt32 >>> ((2 : Int32).toUInt32 &&& Int32.toUInt32 31)).toInt32) &&& 858993459)).toUInt32 >>> ((4 : Int32).toUInt32 &&& Int32.toUInt32 31)).toInt32)) &&& 252645135) + (((((((l0 - (((l0.toUInt32 >>> ((1 : Int32).toUInt32 &&& Int32.toUInt32 31)).toInt32) &&& 1431655765)) &&& 858993459) + ((((l0 - (((l0.toUInt32 >>> ((1 : Int32).toUInt32 &&& Int32.toUInt32 31)).toInt32) &&& 1431655765)).toUInt32 >>> ((2 : Int32).toUInt32 &&& Int32.toUInt32 31)).toInt32) &&& 858993459)) + (((((l0 - (((l0.toUInt32 >>> ((1 : Int32).toUInt32 &&& Int32.toUInt32 31)).toInt32) &&& 1431655765)) &&& 858993459) + ((((l0 - (((l0.toUInt32 >>> ((1 : Int32).toUInt32 &&& Int32.toUInt32 31)).toInt32) &&& 1431655765)).toUInt32 >>> ((2 : Int32).toUInt32 &&& Int32.toUInt32 31)).toInt32) &&& 858993459)).toUInt32 >>> ((4 : Int32).toUInt32 &&& Int32.toUInt32 31)).toInt32)) &&& 252645135).toUInt32 >>> ((8 : Int32).toUInt32 &&& Int32.toUInt32 31)).toInt32)) + ((((((((l0 - (((l0.toUInt32 >>> ((1 : Int32).toUInt32 &&& Int32.toUInt32 31)).toInt32) &&& 1431655765)) &&& 858993459) + ((((l0 - (((l0.toUInt32 >>> ((1 : Int32).toUInt32 &&& Int32.toUInt32 31)).toInt32) &&& 1431655765)).toUInt32 >>> ((2 : Int32).toUInt32 &&& Int32.toUInt32 31)).toInt32) &&& 858993459)) + (((((l0 - (((l0.toUInt32 >>> ((1 : Int32).toUInt32 &&& Int32.toUInt32 31)).toInt32) &&& 1431655765)) &&& 858993459) + ((((l0 - (((l0.toUInt32 >>> ((1 : Int32).toUInt32 &&& Int32.toUInt32 31)).toInt32) &&& 1431655765)).toUInt32 >>> ((2 : Int32).toUInt32 &&& Int32.toUInt32 31)).toInt32) &&& 858993459)).toUInt32 >>> ((4 : Int32).toUInt32 &&& Int32.toUInt32 31)).toInt32)) &&& 252645135) + (((((((l0 - (((l0.toUInt32 >>> ((1 : Int32).toUInt32 &&& Int32.toUInt32 31)).toInt32) &&& 1431655765)) &&& 858993459) + ((((l0 - (((l0.toUInt32 >>> ((1 : Int32).toUInt32 &&& Int32.toUInt32 31)).toInt32) &&& 1431655765)).toUInt32 >>> ((2 : Int32).toUInt32 &&& Int32.toUInt32 31)).toInt32) &&& 858993459)) + (((((l0 - (((l0.toUInt32 >>> ((1 : Int32).toUInt32 &&& Int32.toUInt32 31)).toInt32) &&& 1431655765)) &&& 858993459) + ((((l0 - (((l0.toUInt32 >>> ((1 : Int32).toUInt32 &&& Int32.toUInt32 31)).toInt32) &&& 1431655765)).toUInt32 >>> ((2 : Int32).toUInt32 &&& Int32.toUInt32 31)).toInt32) &&& 858993459)).toUInt32 >>> ((4 : Int32).toUInt32 &&& Int32.toUInt32 31)).toInt32)) &&& 252645135).toUInt32 >>> ((8 : Int32).toUInt32 &&& Int32.toUInt32 31)).toInt32)).toUInt32 >>> ((16 : Int32).toUInt32 &&& Int32.toUInt32 31)).toInt32)))] [] h P
  refine sw_iload_n dJ6_bitCount_0f7a4_48 rfl ?_
  refine sw_bipush (v := 63) dJ6_bitCount_0f7a4_49 (by decide) ?_
  refine sw_iand dJ6_bitCount_0f7a4_51 ?_
  exact sw_ret (v := (some (.int ((((((((l0 - (((l0.toUInt32 >>> ((1 : Int32).toUInt32 &&& Int32.toUInt32 31)).toInt32) &&& 1431655765)) &&& 858993459) + ((((l0 - (((l0.toUInt32 >>> ((1 : Int32).toUInt32 &&& Int32.toUInt32 31)).toInt32) &&& 1431655765)).toUInt32 >>> ((2 : Int32).toUInt32 &&& Int32.toUInt32 31)).toInt32) &&& 858993459)) + (((((l0 - (((l0.toUInt32 >>> ((1 : Int32).toUInt32 &&& Int32.toUInt32 31)).toInt32) &&& 1431655765)) &&& 858993459) + ((((l0 - (((l0.toUInt32 >>> ((1 : Int32).toUInt32 &&& Int32.toUInt32 31)).toInt32) &&& 1431655765)).toUInt32 >>> ((2 : Int32).toUInt32 &&& Int32.toUInt32 31)).toInt32) &&& 858993459)).toUInt32 >>> ((4 : Int32).toUInt32 &&& Int32.toUInt32 31)).toInt32)) &&& 252645135) + (((((((l0 - (((l0.toUInt32 >>> ((1 : Int32).toUInt32 &&& Int32.toUInt32 31)).toInt32) &&& 1431655765)) &&& 858993459) + ((((l0 - (((l0.toUInt32 >>> ((1 : Int32).toUInt32 &&& Int32.toUInt32 31)).toInt32) &&& 1431655765)).toUInt32 >>> ((2 : Int32).toUInt32 &&& Int32.toUInt32 31)).toInt32) &&& 858993459)) + (((((l0 - (((l0.toUInt32 >>> ((1 : Int32).toUInt32 &&& Int32.toUInt32 31)).toInt32) &&& 1431655765)) &&& 858993459) + ((((l0 - (((l0.toUInt32 >>> ((1 : Int32).toUInt32 &&& Int32.toUInt32 31)).toInt32) &&& 1431655765)).toUInt32 >>> ((2 : Int32).toUInt32 &&& Int32.toUInt32 31)).toInt32) &&& 858993459)).toUInt32 >>> ((4 : Int32).toUInt32 &&& Int32.toUInt32 31)).toInt32)) &&& 252645135).toUInt32 >>> ((8 : Int32).toUInt32 &&& Int32.toUInt32 31)).toInt32)) + ((((((((l0 - (((l0.toUInt32 >>> ((1 : Int32).toUInt32 &&& Int32.toUInt32 31)).toInt32) &&& 1431655765)) &&& 858993459) + ((((l0 - (((l0.toUInt32 >>> ((1 : Int32).toUInt32 &&& Int32.toUInt32 31)).toInt32) &&& 1431655765)).toUInt32 >>> ((2 : Int32).toUInt32 &&& Int32.toUInt32 31)).toInt32) &&& 858993459)) + (((((l0 - (((l0.toUInt32 >>> ((1 : Int32).toUInt32 &&& Int32.toUInt32 31)).toInt32) &&& 1431655765)) &&& 858993459) + ((((l0 - (((l0.toUInt32 >>> ((1 : Int32).toUInt32 &&& Int32.toUInt32 31)).toInt32) &&& 1431655765)).toUInt32 >>> ((2 : Int32).toUInt32 &&& Int32.toUInt32 31)).toInt32) &&& 858993459)).toUInt32 >>> ((4 : Int32).toUInt32 &&& Int32.toUInt32 31)).toInt32)) &&& 252645135) + (((((((l0 - (((l0.toUInt32 >>> ((1 : Int32).toUInt32 &&& Int32.toUInt32 31)).toInt32) &&& 1431655765)) &&& 858993459) + ((((l0 - (((l0.toUInt32 >>> ((1 : Int32).toUInt32 &&& Int32.toUInt32 31)).toInt32) &&& 1431655765)).toUInt32 >>> ((2 : Int32).toUInt32 &&& Int32.toUInt32 31)).toInt32) &&& 858993459)) + (((((l0 - (((l0.toUInt32 >>> ((1 : Int32).toUInt32 &&& Int32.toUInt32 31)).toInt32) &&& 1431655765)) &&& 858993459) + ((((l0 - (((l0.toUInt32 >>> ((1 : Int32).toUInt32 &&& Int32.toUInt32 31)).toInt32) &&& 1431655765)).toUInt32 >>> ((2 : Int32).toUInt32 &&& Int32.toUInt32 31)).toInt32) &&& 858993459)).toUInt32 >>> ((4 : Int32).toUInt32 &&& Int32.toUInt32 31)).toInt32)) &&& 252645135).toUInt32 >>> ((8 : Int32).toUInt32 &&& Int32.toUInt32 31)).toInt32)).toUInt32 >>> ((16 : Int32).toUInt32 &&& Int32.toUInt32 31)).toInt32)) &&& 63)))) dJ6_bitCount_0f7a4_52 rt_i hP
theorem b_J9_floorMod_7cf53_0 {l0 : Int32} {l1 : Int32} (hz3 : ¬ l1 = 0) (kt : 0 ≤ (l0 ^^^ l1) → SW sc m_J9_floorMod_7cf53 d rc rs 18 [none, none, some (.int (l0 - l0 / l1 * l1))] [] h P) (kf : ¬ (0 ≤ (l0 ^^^ l1)) → SW sc m_J9_floorMod_7cf53 d rc rs 10 [none, some (.int l1), some (.int (l0 - l0 / l1 * l1))] [] h P) : SW sc m_J9_floorMod_7cf53 d rc rs 0 [some (.int l0), some (.int l1), none] [] h P := by
  refine sw_iload_n dJ9_floorMod_7cf53_0 rfl ?_
  refine sw_iload_n dJ9_floorMod_7cf53_1 rfl ?_
  refine sw_irem dJ9_floorMod_7cf53_2 hz3 ?_
  refine sw_istore_n dJ9_floorMod_7cf53_3 (by decide) rfl ?_
  show SW sc m_J9_floorMod_7cf53 _ _ _ 4 [some (.int l0), some (.int l1), some (.int (l0 - l0 / l1 * l1))] [] h P
  refine sw_iload_n dJ9_floorMod_7cf53_4 rfl ?_
  refine sw_iload_n dJ9_floorMod_7cf53_5 rfl ?_
  refine sw_ixor dJ9_floorMod_7cf53_6 ?_
  exact sw_if_ge dJ9_floorMod_7cf53_7 (by decide) (fun q => (sw_fg [true, true, false] rfl (kt q))) (fun q => (sw_fg [true, false, false] rfl (kf q)))
theorem b_J9_floorMod_7cf53_10 {l1 : Int32} {l2 : Int32} (kt : l2 = 0 → SW sc m_J9_floorMod_7cf53 d rc rs 18 [none, none, some (.int l2)] [] h P) (kf : ¬ (l2 = 0) → SW sc m_J9_floorMod_7cf53 d rc rs 14 [none, some (.int l1), some (.int l2)] [] h P) : SW sc m_J9_floorMod_7cf53 d rc rs 10 [none, some (.int l1), some (.int l2)] [] h P := by
  refine sw_iload_n dJ9_floorMod_7cf53_10 rfl ?_
  exact sw_if_eq dJ9_floorMod_7cf53_11 (by decide) (fun q => (sw_fg [false, true, false] rfl (kt q))) (fun q => (kf q))
theorem b_J9_floorMod_7cf53_14 {l1 : Int32} {l2 : Int32} (hP : P (.inl (some (.int (l2 + l1)))) h) : SW sc m_J9_floorMod_7cf53 d rc rs 14 [none, some (.int l1), some (.int l2)] [] h P := by
  refine sw_iload_n dJ9_floorMod_7cf53_14 rfl ?_
  refine sw_iload_n dJ9_floorMod_7cf53_15 rfl ?_
  refine sw_iadd dJ9_floorMod_7cf53_16 ?_
  exact sw_ret (v := (some (.int (l2 + l1)))) dJ9_floorMod_7cf53_17 rt_i hP
theorem b_J9_floorMod_7cf53_18 {l2 : Int32} (hP : P (.inl (some (.int l2))) h) : SW sc m_J9_floorMod_7cf53 d rc rs 18 [none, none, some (.int l2)] [] h P := by
  refine sw_iload_n dJ9_floorMod_7cf53_18 rfl ?_
  exact sw_ret (v := (some (.int l2))) dJ9_floorMod_7cf53_19 rt_i hP
theorem b_J9_max_7cf53_0 {l0 : Int32} {l1 : Int32} (kt : l0 < l1 → SW sc m_J9_max_7cf53 d rc rs 9 [none, some (.int l1)] [] h P) (kf : ¬ (l0 < l1) → SW sc m_J9_max_7cf53 d rc rs 5 [some (.int l0), none] [] h P) : SW sc m_J9_max_7cf53 d rc rs 0 [some (.int l0), some (.int l1)] [] h P := by
  refine sw_iload_n dJ9_max_7cf53_0 rfl ?_
  refine sw_iload_n dJ9_max_7cf53_1 rfl ?_
  exact sw_icmp_lt dJ9_max_7cf53_2 (by decide) (fun q => (sw_fg [true, false] rfl (kt q))) (fun q => (sw_fg [false, true] rfl (kf q)))
theorem b_J9_max_7cf53_5 {l0 : Int32} (k : SW sc m_J9_max_7cf53 d rc rs 10 [none, none] [.int l0] h P) : SW sc m_J9_max_7cf53 d rc rs 5 [some (.int l0), none] [] h P := by
  refine sw_iload_n dJ9_max_7cf53_5 rfl ?_
  exact sw_goto dJ9_max_7cf53_6 (by decide) (sw_fg [true, false] rfl (k))
theorem b_J9_max_7cf53_9 {l1 : Int32} (k : SW sc m_J9_max_7cf53 d rc rs 10 [none, none] [.int l1] h P) : SW sc m_J9_max_7cf53 d rc rs 9 [none, some (.int l1)] [] h P := by
  refine sw_iload_n dJ9_max_7cf53_9 rfl ?_
  exact (sw_fg [false, true] rfl (k))
theorem b_J9_max_7cf53_10 {s0 : Int32} (hP : P (.inl (some (.int s0))) h) : SW sc m_J9_max_7cf53 d rc rs 10 [none, none] [.int s0] h P := by
  exact sw_ret (v := (some (.int s0))) dJ9_max_7cf53_10 rt_i hP
theorem b_J9_min_7cf53_0 {l0 : Int32} {l1 : Int32} (kt : l1 < l0 → SW sc m_J9_min_7cf53 d rc rs 9 [none, some (.int l1)] [] h P) (kf : ¬ (l1 < l0) → SW sc m_J9_min_7cf53 d rc rs 5 [some (.int l0), none] [] h P) : SW sc m_J9_min_7cf53 d rc rs 0 [some (.int l0), some (.int l1)] [] h P := by
  refine sw_iload_n dJ9_min_7cf53_0 rfl ?_
  refine sw_iload_n dJ9_min_7cf53_1 rfl ?_
  exact sw_icmp_gt dJ9_min_7cf53_2 (by decide) (fun q => (sw_fg [true, false] rfl (kt q))) (fun q => (sw_fg [false, true] rfl (kf q)))
theorem b_J9_min_7cf53_5 {l0 : Int32} (k : SW sc m_J9_min_7cf53 d rc rs 10 [none, none] [.int l0] h P) : SW sc m_J9_min_7cf53 d rc rs 5 [some (.int l0), none] [] h P := by
  refine sw_iload_n dJ9_min_7cf53_5 rfl ?_
  exact sw_goto dJ9_min_7cf53_6 (by decide) (sw_fg [true, false] rfl (k))
theorem b_J9_min_7cf53_9 {l1 : Int32} (k : SW sc m_J9_min_7cf53 d rc rs 10 [none, none] [.int l1] h P) : SW sc m_J9_min_7cf53 d rc rs 9 [none, some (.int l1)] [] h P := by
  refine sw_iload_n dJ9_min_7cf53_9 rfl ?_
  exact (sw_fg [false, true] rfl (k))
theorem b_J9_min_7cf53_10 {s0 : Int32} (hP : P (.inl (some (.int s0))) h) : SW sc m_J9_min_7cf53 d rc rs 10 [none, none] [.int s0] h P := by
  exact sw_ret (v := (some (.int s0))) dJ9_min_7cf53_10 rt_i hP
theorem b_J7_fill_53178_0 {r0 : Nat} {l1 : Int32} {vs4 : List Value} (hc4 : (h)[r0]? = some (100, vs4)) (k : SW sc m_J7_fill_53178 d rc rs 5 [some (.ref r0), some (.int l1), some (.int 0), some (.int (Int32.ofNat vs4.length))] [] h P) : SW sc m_J7_fill_53178 d rc rs 0 [some (.ref r0), some (.int l1), none, none] [] h P := by
  refine sw_iconst (v := 0) dJ7_fill_53178_0 (by decide) ?_
  refine sw_istore_n dJ7_fill_53178_1 (by decide) rfl ?_
  show SW sc m_J7_fill_53178 _ _ _ 2 [some (.ref r0), some (.int l1), some (.int 0), none] [] h P
  refine sw_aload_n dJ7_fill_53178_2 rfl ?_
  refine sw_alen dJ7_fill_53178_3 hc4 ?_
  refine sw_istore_n dJ7_fill_53178_4 (by decide) rfl ?_
  show SW sc m_J7_fill_53178 _ _ _ 5 [some (.ref r0), some (.int l1), some (.int 0), some (.int (Int32.ofNat vs4.length))] [] h P
  exact (k)
theorem b_J7_fill_53178_5 {r0 : Nat} {l1 : Int32} {l2 : Int32} {l3 : Int32} (kt : l3 ≤ l2 → SW sc m_J7_fill_53178 d rc rs 20 [none, none, none, none] [] h P) (kf : ¬ (l3 ≤ l2) → SW sc m_J7_fill_53178 d rc rs 10 [some (.ref r0), some (.int l1), some (.int l2), some (.int l3)] [] h P) : SW sc m_J7_fill_53178 d rc rs 5 [some (.ref r0), some (.int l1), some (.int l2), some (.int l3)] [] h P := by
  refine sw_iload_n dJ7_fill_53178_5 rfl ?_
  refine sw_iload_n dJ7_fill_53178_6 rfl ?_
  exact sw_icmp_ge dJ7_fill_53178_7 (by decide) (fun q => (sw_fg [true, true, true, true] rfl (kt q))) (fun q => (kf q))
theorem b_J7_fill_53178_10 {r0 : Nat} {l1 : Int32} {l2 : Int32} {l3 : Int32} {vs4 : List Value} (hc4 : (h)[r0]? = some (100, vs4)) (ho4 : ¬ l2 < 0) (hl4 : l2.toNatClampNeg < vs4.length) (k : SW sc m_J7_fill_53178 d rc rs 5 [some (.ref r0), some (.int l1), some (.int (l2 + 1)), some (.int l3)] [] ((h).set r0 (100, vs4.set l2.toNatClampNeg (.int l1))) P) : SW sc m_J7_fill_53178 d rc rs 10 [some (.ref r0), some (.int l1), some (.int l2), some (.int l3)] [] h P := by
  refine sw_aload_n dJ7_fill_53178_10 rfl ?_
  refine sw_iload_n dJ7_fill_53178_11 rfl ?_
  refine sw_iload_n dJ7_fill_53178_12 rfl ?_
  refine sw_iast dJ7_fill_53178_13 hc4 ho4 hl4 ?_
  refine sw_iinc (v := l2 + 1) dJ7_fill_53178_14 rfl rfl (by decide) rfl ?_
  show SW sc m_J7_fill_53178 _ _ _ 17 [some (.ref r0), some (.int l1), some (.int (l2 + 1)), some (.int l3)] [] ((h).set r0 (100, vs4.set l2.toNatClampNeg (.int l1))) P
  exact sw_goto dJ7_fill_53178_17 (by decide) (k)
end
