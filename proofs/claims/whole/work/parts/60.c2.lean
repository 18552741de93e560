section
variable {sc : Option (List Int32)} {d rc rs : Nat} {h : ab_H} {P : ab_O → ab_H → Prop}
theorem b_X10_wordOf_127 {r0 : Nat} {l1 : Int32} {l2 : Int32} {l3 : Int32} {l4 : Int32} {l5 : Int32} {l6 : Int32} (k : SW sc m_X10_wordOf d rc rs 12 [some (.ref r0), some (.int l1), some (.int l2), some (.int l3), some (.int l4), some (.int l5), some (.int (l6 + 1)), none, none] [] h P) : SW sc m_X10_wordOf d rc rs 127 [some (.ref r0), some (.int l1), some (.int l2), some (.int l3), some (.int l4), some (.int l5), some (.int l6), none, none] [] h P := by
  refine sw_iinc (v := l6 + 1) dX10_wordOf_127 rfl rfl (by decide) rfl ?_
  show SW sc m_X10_wordOf _ _ _ 130 [some (.ref r0), some (.int l1), some (.int l2), some (.int l3), some (.int l4), some (.int l5), some (.int (l6 + 1)), none, none] [] h P
  exact sw_goto dX10_wordOf_130 (by decide) (k)
theorem b_X10_wordOf_133 {r0 : Nat} {l4 : Int32} {l5 : Int32} (k : SW sc m_X10_wordOf d rc rs 139 [some (.ref r0), none, none, none, some (.int l4), some (.int l5), some (.int 0), some (.int 0), none] [] h P) : SW sc m_X10_wordOf d rc rs 133 [some (.ref r0), none, none, none, some (.int l4), some (.int l5), none, none, none] [] h P := by
  refine sw_iconst (v := 0) dX10_wordOf_133 (by decide) ?_
  refine sw_istore dX10_wordOf_134 (by decide) rfl ?_
  show SW sc m_X10_wordOf _ _ _ 136 [some (.ref r0), none, none, none, some (.int l4), some (.int l5), some (.int 0), none, none] [] h P
  refine sw_iconst (v := 0) dX10_wordOf_136 (by decide) ?_
  refine sw_istore dX10_wordOf_137 (by decide) rfl ?_
  show SW sc m_X10_wordOf _ _ _ 139 [some (.ref r0), none, none, none, some (.int l4), some (.int l5), some (.int 0), some (.int 0), none] [] h P
  exact (k)
theorem b_X10_wordOf_139 {r0 : Nat} {l4 : Int32} {l5 : Int32} {l6 : Int32} {l7 : Int32} (kt : l5 ≤ l7 → SW sc m_X10_wordOf d rc rs 183 [none, none, none, none, none, none, some (.int l6), none, none] [] h P) (kf : ¬ (l5 ≤ l7) → SW sc m_X10_wordOf d rc rs 146 [some (.ref r0), none, none, none, some (.int l4), some (.int l5), some (.int l6), some (.int l7), none] [] h P) : SW sc m_X10_wordOf d rc rs 139 [some (.ref r0), none, none, none, some (.int l4), some (.int l5), some (.int l6), some (.int l7), none] [] h P := by
  refine sw_iload dX10_wordOf_139 rfl ?_
  refine sw_iload dX10_wordOf_141 rfl ?_
  exact sw_icmp_ge dX10_wordOf_143 (by decide) (fun q => (sw_fg [true, false, false, false, true, true, false, true, false] rfl (kt q))) (fun q => (kf q))
theorem b_X10_wordOf_146 {r0 : Nat} {l4 : Int32} {l5 : Int32} {l6 : Int32} {l7 : Int32} {fs4 : List Value} {a4 : Nat} {vs8 : List Value} {x8 : Int32} {v9 : Int32} {g9 : ab_H} {fs13 : List Value} {a13 : Nat} {vs17 : List Value} {x17 : Int32} (hc4 : (h)[r0]? = some (10, fs4)) (hv4 : fs4[11]? = some (.ref a4)) (hc8 : (h)[a4]? = some (100, vs8)) (ho8 : ¬ (l4 + l7) < 0) (hi8 : vs8[(l4 + l7).toNatClampNeg]? = some (.int x8)) (hm9 : MSE m_X10_ones d [.int x8] h (some (.int v9)) g9) (hc13 : (g9)[r0]? = some (10, fs13)) (hv13 : fs13[11]? = some (.ref a13)) (hc17 : (g9)[a13]? = some (100, vs17)) (ho17 : ¬ (l4 + l7) < 0) (hi17 : vs17[(l4 + l7).toNatClampNeg]? = some (.int x17)) (k : SW sc m_X10_wordOf (d + 1) rc rs 139 [some (.ref r0), none, none, none, some (.int l4), some (.int l5), some (.int ((l6 <<< ((2 * v9) &&& 31)) ||| x17)), some (.int (l7 + 1)), none] [] g9 P) : SW sc m_X10_wordOf (d + 1) rc rs 146 [some (.ref r0), none, none, none, some (.int l4), some (.int l5), some (.int l6), some (.int l7), none] [] h P := by
  refine sw_iload dX10_wordOf_146 rfl ?_
  refine sw_iconst (v := 2) dX10_wordOf_148 (by decide) ?_
  refine sw_aload_n dX10_wordOf_149 rfl ?_
  refine sw_getf dX10_wordOf_150 lf_X10_38 hc4 hv4 ?_
  refine sw_iload dX10_wordOf_153 rfl ?_
  refine sw_iload dX10_wordOf_155 rfl ?_
  refine sw_iadd dX10_wordOf_157 ?_
  refine sw_iald dX10_wordOf_158 hc8 ho8 hi8 ?_
  refine sw_cS (M := m_X10_wordOf) dX10_wordOf_159 ls_X10_111 hm9 rfl rfl (Nat.le_of_ble_eq_true rfl) (fun _ _ => rfl) rfl ?_
  show SW sc m_X10_wordOf _ _ _ 162 [some (.ref r0), none, none, none, some (.int l4), some (.int l5), some (.int l6), some (.int l7), none] [.int v9, .int 2, .int l6] g9 P
  refine sw_imul dX10_wordOf_162 ?_
  refine sw_ishl dX10_wordOf_163 ?_
  refine sw_aload_n dX10_wordOf_164 rfl ?_
  refine sw_getf dX10_wordOf_165 lf_X10_38 hc13 hv13 ?_
  refine sw_iload dX10_wordOf_168 rfl ?_
  refine sw_iload dX10_wordOf_170 rfl ?_
  refine sw_iadd dX10_wordOf_172 ?_
  refine sw_iald dX10_wordOf_173 hc17 ho17 hi17 ?_
  refine sw_ior dX10_wordOf_174 ?_
  refine sw_istore dX10_wordOf_175 (by decide) rfl ?_
  show SW sc m_X10_wordOf _ _ _ 177 [some (.ref r0), none, none, none, some (.int l4), some (.int l5), some (.int ((l6 <<< ((2 * v9) &&& 31)) ||| x17)), some (.int l7), none] [] g9 P
  refine sw_iinc (v := l7 + 1) dX10_wordOf_177 rfl rfl (by decide) rfl ?_
  show SW sc m_X10_wordOf _ _ _ 180 [some (.ref r0), none, none, none, some (.int l4), some (.int l5), some (.int ((l6 <<< ((2 * v9) &&& 31)) ||| x17)), some (.int (l7 + 1)), none] [] g9 P
  exact sw_goto dX10_wordOf_180 (by decide) (k)
theorem b_X10_wordOf_183 {l6 : Int32} (hP : P (.inl (some (.int ((l6 <<< (1 &&& 31)) ||| 1)))) h) : SW sc m_X10_wordOf d rc rs 183 [none, none, none, none, none, none, some (.int l6), none, none] [] h P := by
  refine sw_iload dX10_wordOf_183 rfl ?_
  refine sw_iconst (v := 1) dX10_wordOf_185 (by decide) ?_
  refine sw_ishl dX10_wordOf_186 ?_
  refine sw_iconst (v := 1) dX10_wordOf_187 (by decide) ?_
  refine sw_ior dX10_wordOf_188 ?_
  exact sw_ret (v := (some (.int ((l6 <<< (1 &&& 31)) ||| 1)))) dX10_wordOf_189 rt_i hP
theorem b_X10_rootWord_0 {r0 : Nat} {l1 : Int32} {v5 : Int32} {g5 : ab_H} {fs5 : List Value} (hr5 : (h)[r0]? = some (10, fs5)) (hm5 : MSE m_X10_wordOf d [.ref r0, .int l1, .int (-1), .int 0] h (some (.int v5)) g5) (hP : P (.inl (some (.int v5))) g5) : SW sc m_X10_rootWord (d + 1) rc rs 0 [some (.ref r0), some (.int l1)] [] h P := by
  refine sw_aload_n dX10_rootWord_0 rfl ?_
  refine sw_iload_n dX10_rootWord_1 rfl ?_
  refine sw_iconst (v := (-1)) dX10_rootWord_2 (by decide) ?_
  refine sw_iconst (v := 0) dX10_rootWord_3 (by decide) ?_
  refine sw_cV (M := m_X10_rootWord) dX10_rootWord_4 lv_X10_114 hm5 hr5 rfl (by decide) rfl rfl rfl (Nat.le_of_ble_eq_true rfl) (fun _ _ => rfl) rfl ?_
  show SW sc m_X10_rootWord _ _ _ 7 [some (.ref r0), some (.int l1)] [.int v5] g5 P
  exact sw_ret (v := (some (.int v5))) dX10_rootWord_7 rt_i hP
theorem b_X10_wordOfSet_0 {r0 : Nat} {l1 : Int32} {v4 : Int32} {g4 : ab_H} {fs4 : List Value} (hr4 : (h)[r0]? = some (10, fs4)) (hm4 : MSE m_X10_leastOf d [.ref r0, .int l1, .int 1] h (some (.int v4)) g4) (k : SW sc m_X10_wordOfSet (d + 1) rc rs 12 [some (.ref r0), none, some (.int v4), some (.int 0), some (.int 0), none] [] g4 P) : SW sc m_X10_wordOfSet (d + 1) rc rs 0 [some (.ref r0), some (.int l1), none, none, none, none] [] h P := by
  refine sw_aload_n dX10_wordOfSet_0 rfl ?_
  refine sw_iload_n dX10_wordOfSet_1 rfl ?_
  refine sw_iconst (v := 1) dX10_wordOfSet_2 (by decide) ?_
  refine sw_cV (M := m_X10_wordOfSet) dX10_wordOfSet_3 lv_X10_121 hm4 hr4 rfl (by decide) rfl rfl rfl (Nat.le_of_ble_eq_true rfl) (fun _ _ => rfl) rfl ?_
  show SW sc m_X10_wordOfSet _ _ _ 6 [some (.ref r0), some (.int l1), none, none, none, none] [.int v4] g4 P
  refine sw_istore_n dX10_wordOfSet_6 (by decide) rfl ?_
  show SW sc m_X10_wordOfSet _ _ _ 7 [some (.ref r0), some (.int l1), some (.int v4), none, none, none] [] g4 P
  refine sw_iconst (v := 0) dX10_wordOfSet_7 (by decide) ?_
  refine sw_istore_n dX10_wordOfSet_8 (by decide) rfl ?_
  show SW sc m_X10_wordOfSet _ _ _ 9 [some (.ref r0), some (.int l1), some (.int v4), some (.int 0), none, none] [] g4 P
  refine sw_iconst (v := 0) dX10_wordOfSet_9 (by decide) ?_
  refine sw_istore dX10_wordOfSet_10 (by decide) rfl ?_
  show SW sc m_X10_wordOfSet _ _ _ 12 [some (.ref r0), some (.int l1), some (.int v4), some (.int 0), some (.int 0), none] [] g4 P
  exact (sw_fg [false, true, false, false, false, false] rfl (k))
theorem b_X10_wordOfSet_12 {r0 : Nat} {l2 : Int32} {l3 : Int32} {l4 : Int32} {v3 : Int32} {g3 : ab_H} {fs3 : List Value} (hr3 : (h)[r0]? = some (10, fs3)) (hm3 : MSE m_X10_many d [.ref r0] h (some (.int v3)) g3) (kt : v3 ≤ l4 → SW sc m_X10_wordOfSet (d + 1) rc rs 67 [none, none, none, some (.int l3), none, none] [] g3 P) (kf : ¬ (v3 ≤ l4) → SW sc m_X10_wordOfSet (d + 1) rc rs 21 [some (.ref r0), none, some (.int l2), some (.int l3), some (.int l4), none] [] g3 P) : SW sc m_X10_wordOfSet (d + 1) rc rs 12 [some (.ref r0), none, some (.int l2), some (.int l3), some (.int l4), none] [] h P := by
  refine sw_iload dX10_wordOfSet_12 rfl ?_
  refine sw_aload_n dX10_wordOfSet_14 rfl ?_
  refine sw_cV (M := m_X10_wordOfSet) dX10_wordOfSet_15 lv_X10_66 hm3 hr3 rfl (by decide) rfl rfl rfl (Nat.le_of_ble_eq_true rfl) (fun _ _ => rfl) rfl ?_
  show SW sc m_X10_wordOfSet _ _ _ 18 [some (.ref r0), none, some (.int l2), some (.int l3), some (.int l4), none] [.int v3, .int l4] g3 P
  exact sw_icmp_ge dX10_wordOfSet_18 (by decide) (fun q => (sw_fg [true, false, true, false, true, false] rfl (kt q))) (fun q => (kf q))
theorem b_X10_wordOfSet_21 {r0 : Nat} {l2 : Int32} {l3 : Int32} {l4 : Int32} {v3 : Int32} {g3 : ab_H} (hm3 : MSE m_X10_has d [.int l2, .int l4] h (some (.int v3)) g3) (kt : ¬ v3 = 0 → SW sc m_X10_wordOfSet (d + 1) rc rs 33 [some (.ref r0), none, some (.int l2), some (.int l3), some (.int l4), none] [] g3 P) (kf : v3 = 0 → SW sc m_X10_wordOfSet (d + 1) rc rs 30 [some (.ref r0), none, some (.int l2), some (.int l3), some (.int l4), none] [] g3 P) : SW sc m_X10_wordOfSet (d + 1) rc rs 21 [some (.ref r0), none, some (.int l2), some (.int l3), some (.int l4), none] [] h P := by
  refine sw_iload_n dX10_wordOfSet_21 rfl ?_
  refine sw_iload dX10_wordOfSet_22 rfl ?_
  refine sw_cS (M := m_X10_wordOfSet) dX10_wordOfSet_24 ls_X10_70 hm3 rfl rfl (Nat.le_of_ble_eq_true rfl) (fun _ _ => rfl) rfl ?_
  show SW sc m_X10_wordOfSet _ _ _ 27 [some (.ref r0), none, some (.int l2), some (.int l3), some (.int l4), none] [.int v3] g3 P
  exact sw_if_ne dX10_wordOfSet_27 (by decide) (fun q => (kt q)) (fun q => (kf q))
theorem b_X10_wordOfSet_30 {r0 : Nat} {l2 : Int32} {l3 : Int32} {l4 : Int32} (k : SW sc m_X10_wordOfSet d rc rs 61 [some (.ref r0), none, some (.int l2), some (.int l3), some (.int l4), none] [] h P) : SW sc m_X10_wordOfSet d rc rs 30 [some (.ref r0), none, some (.int l2), some (.int l3), some (.int l4), none] [] h P := by
  exact sw_goto dX10_wordOfSet_30 (by decide) (k)
theorem b_X10_wordOfSet_33 {r0 : Nat} {l2 : Int32} {l3 : Int32} {l4 : Int32} {v3 : Int32} {g3 : ab_H} {fs3 : List Value} (hr3 : (h)[r0]? = some (10, fs3)) (hm3 : MSE m_X10_rootWord d [.ref r0, .int l4] h (some (.int v3)) g3) (kt : l3 = 0 → SW sc m_X10_wordOfSet (d + 1) rc rs 54 [some (.ref r0), none, some (.int l2), none, some (.int l4), some (.int v3)] [] g3 P) (kf : ¬ (l3 = 0) → SW sc m_X10_wordOfSet (d + 1) rc rs 45 [some (.ref r0), none, some (.int l2), some (.int l3), some (.int l4), some (.int v3)] [] g3 P) : SW sc m_X10_wordOfSet (d + 1) rc rs 33 [some (.ref r0), none, some (.int l2), some (.int l3), some (.int l4), none] [] h P := by
  refine sw_aload_n dX10_wordOfSet_33 rfl ?_
  refine sw_iload dX10_wordOfSet_34 rfl ?_
  refine sw_cV (M := m_X10_wordOfSet) dX10_wordOfSet_36 lv_X10_124 hm3 hr3 rfl (by decide) rfl rfl rfl (Nat.le_of_ble_eq_true rfl) (fun _ _ => rfl) rfl ?_
  show SW sc m_X10_wordOfSet _ _ _ 39 [some (.ref r0), none, some (.int l2), some (.int l3), some (.int l4), none] [.int v3] g3 P
  refine sw_istore dX10_wordOfSet_39 (by decide) rfl ?_
  show SW sc m_X10_wordOfSet _ _ _ 41 [some (.ref r0), none, some (.int l2), some (.int l3), some (.int l4), some (.int v3)] [] g3 P
  refine sw_iload_n dX10_wordOfSet_41 rfl ?_
  exact sw_if_eq dX10_wordOfSet_42 (by decide) (fun q => (sw_fg [false, false, false, true, false, false] rfl (kt q))) (fun q => (kf q))
theorem b_X10_wordOfSet_45 {r0 : Nat} {l2 : Int32} {l3 : Int32} {l4 : Int32} {l5 : Int32} {v3 : Int32} {g3 : ab_H} (hm3 : MSE m_X10_isLess d [.int l5, .int l3] h (some (.int v3)) g3) (kt : v3 = 0 → SW sc m_X10_wordOfSet (d + 1) rc rs 59 [some (.ref r0), none, some (.int l2), some (.int l3), some (.int l4), none] [] g3 P) (kf : ¬ (v3 = 0) → SW sc m_X10_wordOfSet (d + 1) rc rs 54 [some (.ref r0), none, some (.int l2), none, some (.int l4), some (.int l5)] [] g3 P) : SW sc m_X10_wordOfSet (d + 1) rc rs 45 [some (.ref r0), none, some (.int l2), some (.int l3), some (.int l4), some (.int l5)] [] h P := by
  refine sw_iload dX10_wordOfSet_45 rfl ?_
  refine sw_iload_n dX10_wordOfSet_47 rfl ?_
  refine sw_cS (M := m_X10_wordOfSet) dX10_wordOfSet_48 ls_X10_118 hm3 rfl rfl (Nat.le_of_ble_eq_true rfl) (fun _ _ => rfl) rfl ?_
  show SW sc m_X10_wordOfSet _ _ _ 51 [some (.ref r0), none, some (.int l2), some (.int l3), some (.int l4), some (.int l5)] [.int v3] g3 P
  exact sw_if_eq dX10_wordOfSet_51 (by decide) (fun q => (sw_fg [false, false, false, false, false, true] rfl (kt q))) (fun q => (sw_fg [false, false, false, true, false, false] rfl (kf q)))
theorem b_X10_wordOfSet_54 {r0 : Nat} {l2 : Int32} {l4 : Int32} {l5 : Int32} (k : SW sc m_X10_wordOfSet d rc rs 60 [some (.ref r0), none, some (.int l2), none, some (.int l4), none] [.int l5] h P) : SW sc m_X10_wordOfSet d rc rs 54 [some (.ref r0), none, some (.int l2), none, some (.int l4), some (.int l5)] [] h P := by
  refine sw_iload dX10_wordOfSet_54 rfl ?_
  exact sw_goto dX10_wordOfSet_56 (by decide) (sw_fg [false, false, false, false, false, true] rfl (k))
theorem b_X10_wordOfSet_59 {r0 : Nat} {l2 : Int32} {l3 : Int32} {l4 : Int32} (k : SW sc m_X10_wordOfSet d rc rs 60 [some (.ref r0), none, some (.int l2), none, some (.int l4), none] [.int l3] h P) : SW sc m_X10_wordOfSet d rc rs 59 [some (.ref r0), none, some (.int l2), some (.int l3), some (.int l4), none] [] h P := by
  refine sw_iload_n dX10_wordOfSet_59 rfl ?_
  exact (sw_fg [false, false, false, true, false, false] rfl (k))
theorem b_X10_wordOfSet_60 {r0 : Nat} {l2 : Int32} {l4 : Int32} {s0 : Int32} (k : SW sc m_X10_wordOfSet d rc rs 61 [some (.ref r0), none, some (.int l2), some (.int s0), some (.int l4), none] [] h P) : SW sc m_X10_wordOfSet d rc rs 60 [some (.ref r0), none, some (.int l2), none, some (.int l4), none] [.int s0] h P := by
  refine sw_istore_n dX10_wordOfSet_60 (by decide) rfl ?_
  show SW sc m_X10_wordOfSet _ _ _ 61 [some (.ref r0), none, some (.int l2), some (.int s0), some (.int l4), none] [] h P
  exact (k)
theorem b_X10_wordOfSet_61 {r0 : Nat} {l2 : Int32} {l3 : Int32} {l4 : Int32} (k : SW sc m_X10_wordOfSet d rc rs 12 [some (.ref r0), none, some (.int l2), some (.int l3), some (.int (l4 + 1)), none] [] h P) : SW sc m_X10_wordOfSet d rc rs 61 [some (.ref r0), none, some (.int l2), some (.int l3), some (.int l4), none] [] h P := by
  refine sw_iinc (v := l4 + 1) dX10_wordOfSet_61 rfl rfl (by decide) rfl ?_
  show SW sc m_X10_wordOfSet _ _ _ 64 [some (.ref r0), none, some (.int l2), some (.int l3), some (.int (l4 + 1)), none] [] h P
  exact sw_goto dX10_wordOfSet_64 (by decide) (k)
theorem b_X10_wordOfSet_67 {l3 : Int32} (hP : P (.inl (some (.int l3))) h) : SW sc m_X10_wordOfSet d rc rs 67 [none, none, none, some (.int l3), none, none] [] h P := by
  refine sw_iload_n dX10_wordOfSet_67 rfl ?_
  exact sw_ret (v := (some (.int l3))) dX10_wordOfSet_68 rt_i hP
theorem b_X10_orbit_0 {r0 : Nat} {l1 : Int32} {v3 : Int32} {g3 : ab_H} {fs3 : List Value} {v7 : Int32} {g7 : ab_H} {fs7 : List Value} (hr3 : (h)[r0]? = some (10, fs3)) (hm3 : MSE m_X10_component d [.ref r0, .int l1] h (some (.int v3)) g3) (hr7 : (g3)[r0]? = some (10, fs7)) (hm7 : MSE m_X10_rootWord d [.ref r0, .int l1] g3 (some (.int v7)) g7) (k : SW sc m_X10_orbit (d + 1) rc rs 18 [some (.ref r0), none, some (.int v3), some (.int v7), some (.int 0), some (.int 0)] [] g7 P) : SW sc m_X10_orbit (d + 1) rc rs 0 [some (.ref r0), some (.int l1), none, none, none, none] [] h P := by
  refine sw_aload_n dX10_orbit_0 rfl ?_
  refine sw_iload_n dX10_orbit_1 rfl ?_
  refine sw_cV (M := m_X10_orbit) dX10_orbit_2 lv_X10_84 hm3 hr3 rfl (by decide) rfl rfl rfl (Nat.le_of_ble_eq_true rfl) (fun _ _ => rfl) rfl ?_
  show SW sc m_X10_orbit _ _ _ 5 [some (.ref r0), some (.int l1), none, none, none, none] [.int v3] g3 P
  refine sw_istore_n dX10_orbit_5 (by decide) rfl ?_
  show SW sc m_X10_orbit _ _ _ 6 [some (.ref r0), some (.int l1), some (.int v3), none, none, none] [] g3 P
  refine sw_aload_n dX10_orbit_6 rfl ?_
  refine sw_iload_n dX10_orbit_7 rfl ?_
  refine sw_cV (M := m_X10_orbit) dX10_orbit_8 lv_X10_124 hm7 hr7 rfl (by decide) rfl rfl rfl (Nat.le_of_ble_eq_true rfl) (fun _ _ => rfl) rfl ?_
  show SW sc m_X10_orbit _ _ _ 11 [some (.ref r0), some (.int l1), some (.int v3), none, none, none] [.int v7] g7 P
  refine sw_istore_n dX10_orbit_11 (by decide) rfl ?_
  show SW sc m_X10_orbit _ _ _ 12 [some (.ref r0), some (.int l1), some (.int v3), some (.int v7), none, none] [] g7 P
  refine sw_iconst (v := 0) dX10_orbit_12 (by decide) ?_
  refine sw_istore dX10_orbit_13 (by decide) rfl ?_
  show SW sc m_X10_orbit _ _ _ 15 [some (.ref r0), some (.int l1), some (.int v3), some (.int v7), some (.int 0), none] [] g7 P
  refine sw_iconst (v := 0) dX10_orbit_15 (by decide) ?_
  refine sw_istore dX10_orbit_16 (by decide) rfl ?_
  show SW sc m_X10_orbit _ _ _ 18 [some (.ref r0), some (.int l1), some (.int v3), some (.int v7), some (.int 0), some (.int 0)] [] g7 P
  exact (sw_fg [false, true, false, false, false, false] rfl (k))
theorem b_X10_orbit_18 {r0 : Nat} {l2 : Int32} {l3 : Int32} {l4 : Int32} {l5 : Int32} {v3 : Int32} {g3 : ab_H} {fs3 : List Value} (hr3 : (h)[r0]? = some (10, fs3)) (hm3 : MSE m_X10_many d [.ref r0] h (some (.int v3)) g3) (kt : v3 ≤ l5 → SW sc m_X10_orbit (d + 1) rc rs 61 [none, none, none, none, some (.int l4), none] [] g3 P) (kf : ¬ (v3 ≤ l5) → SW sc m_X10_orbit (d + 1) rc rs 27 [some (.ref r0), none, some (.int l2), some (.int l3), some (.int l4), some (.int l5)] [] g3 P) : SW sc m_X10_orbit (d + 1) rc rs 18 [some (.ref r0), none, some (.int l2), some (.int l3), some (.int l4), some (.int l5)] [] h P := by
  refine sw_iload dX10_orbit_18 rfl ?_
  refine sw_aload_n dX10_orbit_20 rfl ?_
  refine sw_cV (M := m_X10_orbit) dX10_orbit_21 lv_X10_66 hm3 hr3 rfl (by decide) rfl rfl rfl (Nat.le_of_ble_eq_true rfl) (fun _ _ => rfl) rfl ?_
  show SW sc m_X10_orbit _ _ _ 24 [some (.ref r0), none, some (.int l2), some (.int l3), some (.int l4), some (.int l5)] [.int v3, .int l5] g3 P
  exact sw_icmp_ge dX10_orbit_24 (by decide) (fun q => (sw_fg [true, false, true, true, false, true] rfl (kt q))) (fun q => (kf q))
theorem b_X10_orbit_27 {r0 : Nat} {l2 : Int32} {l3 : Int32} {l4 : Int32} {l5 : Int32} {v3 : Int32} {g3 : ab_H} (hm3 : MSE m_X10_has d [.int l2, .int l5] h (some (.int v3)) g3) (kt : v3 = 0 → SW sc m_X10_orbit (d + 1) rc rs 55 [some (.ref r0), none, some (.int l2), some (.int l3), some (.int l4), some (.int l5)] [] g3 P) (kf : ¬ (v3 = 0) → SW sc m_X10_orbit (d + 1) rc rs 36 [some (.ref r0), none, some (.int l2), some (.int l3), some (.int l4), some (.int l5)] [] g3 P) : SW sc m_X10_orbit (d + 1) rc rs 27 [some (.ref r0), none, some (.int l2), some (.int l3), some (.int l4), some (.int l5)] [] h P := by
  refine sw_iload_n dX10_orbit_27 rfl ?_
  refine sw_iload dX10_orbit_28 rfl ?_
  refine sw_cS (M := m_X10_orbit) dX10_orbit_30 ls_X10_70 hm3 rfl rfl (Nat.le_of_ble_eq_true rfl) (fun _ _ => rfl) rfl ?_
  show SW sc m_X10_orbit _ _ _ 33 [some (.ref r0), none, some (.int l2), some (.int l3), some (.int l4), some (.int l5)] [.int v3] g3 P
  exact sw_if_eq dX10_orbit_33 (by decide) (fun q => (kt q)) (fun q => (kf q))
theorem b_X10_orbit_36 {r0 : Nat} {l2 : Int32} {l3 : Int32} {l4 : Int32} {l5 : Int32} {v3 : Int32} {g3 : ab_H} {fs3 : List Value} (hr3 : (h)[r0]? = some (10, fs3)) (hm3 : MSE m_X10_rootWord d [.ref r0, .int l5] h (some (.int v3)) g3) (kt : ¬ v3 = l3 → SW sc m_X10_orbit (d + 1) rc rs 55 [some (.ref r0), none, some (.int l2), some (.int l3), some (.int l4), some (.int l5)] [] g3 P) (kf : v3 = l3 → SW sc m_X10_orbit (d + 1) rc rs 46 [some (.ref r0), none, some (.int l2), some (.int l3), some (.int l4), some (.int l5)] [] g3 P) : SW sc m_X10_orbit (d + 1) rc rs 36 [some (.ref r0), none, some (.int l2), some (.int l3), some (.int l4), some (.int l5)] [] h P := by
  refine sw_aload_n dX10_orbit_36 rfl ?_
  refine sw_iload dX10_orbit_37 rfl ?_
  refine sw_cV (M := m_X10_orbit) dX10_orbit_39 lv_X10_124 hm3 hr3 rfl (by decide) rfl rfl rfl (Nat.le_of_ble_eq_true rfl) (fun _ _ => rfl) rfl ?_
  show SW sc m_X10_orbit _ _ _ 42 [some (.ref r0), none, some (.int l2), some (.int l3), some (.int l4), some (.int l5)] [.int v3] g3 P
  refine sw_iload_n dX10_orbit_42 rfl ?_
  exact sw_icmp_ne dX10_orbit_43 (by decide) (fun q => (kt q)) (fun q => (kf q))
theorem b_X10_orbit_46 {r0 : Nat} {l2 : Int32} {l3 : Int32} {l4 : Int32} {l5 : Int32} (k : SW sc m_X10_orbit d rc rs 55 [some (.ref r0), none, some (.int l2), some (.int l3), some (.int (l4 ||| (1 <<< (l5 &&& 31)))), some (.int l5)] [] h P) : SW sc m_X10_orbit d rc rs 46 [some (.ref r0), none, some (.int l2), some (.int l3), some (.int l4), some (.int l5)] [] h P := by
  refine sw_iload dX10_orbit_46 rfl ?_
  refine sw_iconst (v := 1) dX10_orbit_48 (by decide) ?_
  refine sw_iload dX10_orbit_49 rfl ?_
  refine sw_ishl dX10_orbit_51 ?_
  refine sw_ior dX10_orbit_52 ?_
  refine sw_istore dX10_orbit_53 (by decide) rfl ?_
  show SW sc m_X10_orbit _ _ _ 55 [some (.ref r0), none, some (.int l2), some (.int l3), some (.int (l4 ||| (1 <<< (l5 &&& 31)))), some (.int l5)] [] h P
  exact (k)
theorem b_X10_orbit_55 {r0 : Nat} {l2 : Int32} {l3 : Int32} {l4 : Int32} {l5 : Int32} (k : SW sc m_X10_orbit d rc rs 18 [some (.ref r0), none, some (.int l2), some (.int l3), some (.int l4), some (.int (l5 + 1))] [] h P) : SW sc m_X10_orbit d rc rs 55 [some (.ref r0), none, some (.int l2), some (.int l3), some (.int l4), some (.int l5)] [] h P := by
  refine sw_iinc (v := l5 + 1) dX10_orbit_55 rfl rfl (by decide) rfl ?_
  show SW sc m_X10_orbit _ _ _ 58 [some (.ref r0), none, some (.int l2), some (.int l3), some (.int l4), some (.int (l5 + 1))] [] h P
  exact sw_goto dX10_orbit_58 (by decide) (k)
theorem b_X10_orbit_61 {l4 : Int32} (hP : P (.inl (some (.int l4))) h) : SW sc m_X10_orbit d rc rs 61 [none, none, none, none, some (.int l4), none] [] h P := by
  refine sw_iload dX10_orbit_61 rfl ?_
  exact sw_ret (v := (some (.int l4))) dX10_orbit_63 rt_i hP
theorem b_X10_turns_0 {r0 : Nat} {l1 : Int32} {l2 : Int32} (k : SW sc m_X10_turns d rc rs 5 [some (.ref r0), some (.int l1), some (.int l2), some (.int 1), some (.int 0), none, none, none] [] h P) : SW sc m_X10_turns d rc rs 0 [some (.ref r0), some (.int l1), some (.int l2), none, none, none, none, none] [] h P := by
  refine sw_iconst (v := 1) dX10_turns_0 (by decide) ?_
  refine sw_istore_n dX10_turns_1 (by decide) rfl ?_
  show SW sc m_X10_turns _ _ _ 2 [some (.ref r0), some (.int l1), some (.int l2), some (.int 1), none, none, none, none] [] h P
  refine sw_iconst (v := 0) dX10_turns_2 (by decide) ?_
  refine sw_istore dX10_turns_3 (by decide) rfl ?_
  show SW sc m_X10_turns _ _ _ 5 [some (.ref r0), some (.int l1), some (.int l2), some (.int 1), some (.int 0), none, none, none] [] h P
  exact (k)
theorem b_X10_turns_5 {r0 : Nat} {l1 : Int32} {l2 : Int32} {l3 : Int32} {l4 : Int32} {v3 : Int32} {g3 : ab_H} {fs3 : List Value} (hr3 : (h)[r0]? = some (10, fs3)) (hm3 : MSE m_X10_many d [.ref r0] h (some (.int v3)) g3) (kt : v3 ≤ l4 → SW sc m_X10_turns (d + 1) rc rs 126 [none, none, none, some (.int l3), none, none, none, none] [] g3 P) (kf : ¬ (v3 ≤ l4) → SW sc m_X10_turns (d + 1) rc rs 14 [some (.ref r0), some (.int l1), some (.int l2), some (.int l3), some (.int l4), none, none, none] [] g3 P) : SW sc m_X10_turns (d + 1) rc rs 5 [some (.ref r0), some (.int l1), some (.int l2), some (.int l3), some (.int l4), none, none, none] [] h P := by
  refine sw_iload dX10_turns_5 rfl ?_
  refine sw_aload_n dX10_turns_7 rfl ?_
  refine sw_cV (M := m_X10_turns) dX10_turns_8 lv_X10_66 hm3 hr3 rfl (by decide) rfl rfl rfl (Nat.le_of_ble_eq_true rfl) (fun _ _ => rfl) rfl ?_
  show SW sc m_X10_turns _ _ _ 11 [some (.ref r0), some (.int l1), some (.int l2), some (.int l3), some (.int l4), none, none, none] [.int v3, .int l4] g3 P
  exact sw_icmp_ge dX10_turns_11 (by decide) (fun q => (sw_fg [true, true, true, false, true, false, false, false] rfl (kt q))) (fun q => (kf q))
theorem b_X10_turns_14 {r0 : Nat} {l1 : Int32} {l2 : Int32} {l3 : Int32} {l4 : Int32} {v3 : Int32} {g3 : ab_H} {fs3 : List Value} {v5 : Int32} {g5 : ab_H} (hr3 : (h)[r0]? = some (10, fs3)) (hm3 : MSE m_X10_at d [.ref r0, .int l1] h (some (.int v3)) g3) (hm5 : MSE m_X10_has d [.int v3, .int l4] g3 (some (.int v5)) g5) (kt : v5 = 0 → SW sc m_X10_turns (d + 1) rc rs 120 [some (.ref r0), some (.int l1), some (.int l2), some (.int l3), some (.int l4), none, none, none] [] g5 P) (kf : ¬ (v5 = 0) → SW sc m_X10_turns (d + 1) rc rs 27 [some (.ref r0), some (.int l1), some (.int l2), some (.int l3), some (.int l4), none, none, none] [] g5 P) : SW sc m_X10_turns (d + 1) rc rs 14 [some (.ref r0), some (.int l1), some (.int l2), some (.int l3), some (.int l4), none, none, none] [] h P := by
  refine sw_aload_n dX10_turns_14 rfl ?_
  refine sw_iload_n dX10_turns_15 rfl ?_
  refine sw_cV (M := m_X10_turns) dX10_turns_16 lv_X10_74 hm3 hr3 rfl (by decide) rfl rfl rfl (Nat.le_of_ble_eq_true rfl) (fun _ _ => rfl) rfl ?_
  show SW sc m_X10_turns _ _ _ 19 [some (.ref r0), some (.int l1), some (.int l2), some (.int l3), some (.int l4), none, none, none] [.int v3] g3 P
  refine sw_iload dX10_turns_19 rfl ?_
  refine sw_cS (M := m_X10_turns) dX10_turns_21 ls_X10_70 hm5 rfl rfl (Nat.le_of_ble_eq_true rfl) (fun _ _ => rfl) rfl ?_
  show SW sc m_X10_turns _ _ _ 24 [some (.ref r0), some (.int l1), some (.int l2), some (.int l3), some (.int l4), none, none, none] [.int v5] g5 P
  exact sw_if_eq dX10_turns_24 (by decide) (fun q => (kt q)) (fun q => (kf q))
theorem b_X10_turns_27 {r0 : Nat} {l1 : Int32} {l2 : Int32} {l3 : Int32} {l4 : Int32} (kt : ¬ l4 = l2 → SW sc m_X10_turns d rc rs 36 [some (.ref r0), some (.int l1), some (.int l2), some (.int l3), some (.int l4), none, none, none] [] h P) (kf : l4 = l2 → SW sc m_X10_turns d rc rs 33 [some (.ref r0), some (.int l1), some (.int l2), some (.int l3), some (.int l4), none, none, none] [] h P) : SW sc m_X10_turns d rc rs 27 [some (.ref r0), some (.int l1), some (.int l2), some (.int l3), some (.int l4), none, none, none] [] h P := by
  refine sw_iload dX10_turns_27 rfl ?_
  refine sw_iload_n dX10_turns_29 rfl ?_
  exact sw_icmp_ne dX10_turns_30 (by decide) (fun q => (kt q)) (fun q => (kf q))
theorem b_X10_turns_33 {r0 : Nat} {l1 : Int32} {l2 : Int32} {l3 : Int32} {l4 : Int32} (k : SW sc m_X10_turns d rc rs 120 [some (.ref r0), some (.int l1), some (.int l2), some (.int l3), some (.int l4), none, none, none] [] h P) : SW sc m_X10_turns d rc rs 33 [some (.ref r0), some (.int l1), some (.int l2), some (.int l3), some (.int l4), none, none, none] [] h P := by
  exact sw_goto dX10_turns_33 (by decide) (k)
theorem b_X10_turns_36 {r0 : Nat} {l1 : Int32} {l2 : Int32} {l3 : Int32} {l4 : Int32} {v5 : Int32} {g5 : ab_H} {fs5 : List Value} (hr5 : (h)[r0]? = some (10, fs5)) (hm5 : MSE m_X10_wordOf d [.ref r0, .int l4, .int l1, .int 0] h (some (.int v5)) g5) (k : SW sc m_X10_turns (d + 1) rc rs 52 [some (.ref r0), some (.int l1), some (.int l2), some (.int l3), some (.int l4), some (.int v5), some (.int 1), some (.int 0)] [] g5 P) : SW sc m_X10_turns (d + 1) rc rs 36 [some (.ref r0), some (.int l1), some (.int l2), some (.int l3), some (.int l4), none, none, none] [] h P := by
  refine sw_aload_n dX10_turns_36 rfl ?_
  refine sw_iload dX10_turns_37 rfl ?_
  refine sw_iload_n dX10_turns_39 rfl ?_
  refine sw_iconst (v := 0) dX10_turns_40 (by decide) ?_
  refine sw_cV (M := m_X10_turns) dX10_turns_41 lv_X10_114 hm5 hr5 rfl (by decide) rfl rfl rfl (Nat.le_of_ble_eq_true rfl) (fun _ _ => rfl) rfl ?_
  show SW sc m_X10_turns _ _ _ 44 [some (.ref r0), some (.int l1), some (.int l2), some (.int l3), some (.int l4), none, none, none] [.int v5] g5 P
  refine sw_istore dX10_turns_44 (by decide) rfl ?_
  show SW sc m_X10_turns _ _ _ 46 [some (.ref r0), some (.int l1), some (.int l2), some (.int l3), some (.int l4), some (.int v5), none, none] [] g5 P
  refine sw_iconst (v := 1) dX10_turns_46 (by decide) ?_
  refine sw_istore dX10_turns_47 (by decide) rfl ?_
  show SW sc m_X10_turns _ _ _ 49 [some (.ref r0), some (.int l1), some (.int l2), some (.int l3), some (.int l4), some (.int v5), some (.int 1), none] [] g5 P
  refine sw_iconst (v := 0) dX10_turns_49 (by decide) ?_
  refine sw_istore dX10_turns_50 (by decide) rfl ?_
  show SW sc m_X10_turns _ _ _ 52 [some (.ref r0), some (.int l1), some (.int l2), some (.int l3), some (.int l4), some (.int v5), some (.int 1), some (.int 0)] [] g5 P
  exact (k)
theorem b_X10_turns_52 {r0 : Nat} {l1 : Int32} {l2 : Int32} {l3 : Int32} {l4 : Int32} {l5 : Int32} {l6 : Int32} {l7 : Int32} (kt : l4 ≤ l7 → SW sc m_X10_turns d rc rs 107 [some (.ref r0), some (.int l1), some (.int l2), some (.int l3), some (.int l4), none, some (.int l6), none] [] h P) (kf : ¬ (l4 ≤ l7) → SW sc m_X10_turns d rc rs 59 [some (.ref r0), some (.int l1), some (.int l2), some (.int l3), some (.int l4), some (.int l5), some (.int l6), some (.int l7)] [] h P) : SW sc m_X10_turns d rc rs 52 [some (.ref r0), some (.int l1), some (.int l2), some (.int l3), some (.int l4), some (.int l5), some (.int l6), some (.int l7)] [] h P := by
  refine sw_iload dX10_turns_52 rfl ?_
  refine sw_iload dX10_turns_54 rfl ?_
  exact sw_icmp_ge dX10_turns_56 (by decide) (fun q => (sw_fg [false, false, false, false, false, true, false, true] rfl (kt q))) (fun q => (kf q))
theorem b_X10_turns_59 {r0 : Nat} {l1 : Int32} {l2 : Int32} {l3 : Int32} {l4 : Int32} {l5 : Int32} {l6 : Int32} {l7 : Int32} {v4 : Int32} {g4 : ab_H} {fs4 : List Value} {v6 : Int32} {g6 : ab_H} (hr4 : (h)[r0]? = some (10, fs4)) (hm4 : MSE m_X10_at d [.ref r0, .int l1] h (some (.int v4)) g4) (hm6 : MSE m_X10_has d [.int v4, .int l7] g4 (some (.int v6)) g6) (kt : v6 = 0 → SW sc m_X10_turns (d + 1) rc rs 97 [some (.ref r0), some (.int l1), some (.int l2), some (.int l3), some (.int l4), some (.int l5), none, some (.int l7)] [.int l6] g6 P) (kf : ¬ (v6 = 0) → SW sc m_X10_turns (d + 1) rc rs 74 [some (.ref r0), some (.int l1), some (.int l2), some (.int l3), some (.int l4), some (.int l5), none, some (.int l7)] [.int l6] g6 P) : SW sc m_X10_turns (d + 1) rc rs 59 [some (.ref r0), some (.int l1), some (.int l2), some (.int l3), some (.int l4), some (.int l5), some (.int l6), some (.int l7)] [] h P := by
  refine sw_iload dX10_turns_59 rfl ?_
  refine sw_aload_n dX10_turns_61 rfl ?_
  refine sw_iload_n dX10_turns_62 rfl ?_
  refine sw_cV (M := m_X10_turns) dX10_turns_63 lv_X10_74 hm4 hr4 rfl (by decide) rfl rfl rfl (Nat.le_of_ble_eq_true rfl) (fun _ _ => rfl) rfl ?_
  show SW sc m_X10_turns _ _ _ 66 [some (.ref r0), some (.int l1), some (.int l2), some (.int l3), some (.int l4), some (.int l5), some (.int l6), some (.int l7)] [.int v4, .int l6] g4 P
  refine sw_iload dX10_turns_66 rfl ?_
  refine sw_cS (M := m_X10_turns) dX10_turns_68 ls_X10_70 hm6 rfl rfl (Nat.le_of_ble_eq_true rfl) (fun _ _ => rfl) rfl ?_
  show SW sc m_X10_turns _ _ _ 71 [some (.ref r0), some (.int l1), some (.int l2), some (.int l3), some (.int l4), some (.int l5), some (.int l6), some (.int l7)] [.int v6, .int l6] g6 P
  exact sw_if_eq dX10_turns_71 (by decide) (fun q => (sw_fg [false, false, false, false, false, false, true, false] rfl (kt q))) (fun q => (sw_fg [false, false, false, false, false, false, true, false] rfl (kf q)))
theorem b_X10_turns_74 {r0 : Nat} {l1 : Int32} {l2 : Int32} {l3 : Int32} {l4 : Int32} {l5 : Int32} {l7 : Int32} {s0 : Int32} (kt : l7 = l2 → SW sc m_X10_turns d rc rs 97 [some (.ref r0), some (.int l1), some (.int l2), some (.int l3), some (.int l4), some (.int l5), none, some (.int l7)] [.int s0] h P) (kf : ¬ (l7 = l2) → SW sc m_X10_turns d rc rs 80 [some (.ref r0), some (.int l1), some (.int l2), some (.int l3), some (.int l4), some (.int l5), none, some (.int l7)] [.int s0] h P) : SW sc m_X10_turns d rc rs 74 [some (.ref r0), some (.int l1), some (.int l2), some (.int l3), some (.int l4), some (.int l5), none, some (.int l7)] [.int s0] h P := by
  refine sw_iload dX10_turns_74 rfl ?_
  refine sw_iload_n dX10_turns_76 rfl ?_
  exact sw_icmp_eq dX10_turns_77 (by decide) (fun q => (kt q)) (fun q => (kf q))
theorem b_X10_turns_80 {r0 : Nat} {l1 : Int32} {l2 : Int32} {l3 : Int32} {l4 : Int32} {l5 : Int32} {l7 : Int32} {s0 : Int32} {v5 : Int32} {g5 : ab_H} {fs5 : List Value} (hr5 : (h)[r0]? = some (10, fs5)) (hm5 : MSE m_X10_wordOf d [.ref r0, .int l7, .int l1, .int 0] h (some (.int v5)) g5) (kt : ¬ v5 = l5 → SW sc m_X10_turns (d + 1) rc rs 97 [some (.ref r0), some (.int l1), some (.int l2), some (.int l3), some (.int l4), some (.int l5), none, some (.int l7)] [.int s0] g5 P) (kf : v5 = l5 → SW sc m_X10_turns (d + 1) rc rs 93 [some (.ref r0), some (.int l1), some (.int l2), some (.int l3), some (.int l4), some (.int l5), none, some (.int l7)] [.int s0] g5 P) : SW sc m_X10_turns (d + 1) rc rs 80 [some (.ref r0), some (.int l1), some (.int l2), some (.int l3), some (.int l4), some (.int l5), none, some (.int l7)] [.int s0] h P := by
  refine sw_aload_n dX10_turns_80 rfl ?_
  refine sw_iload dX10_turns_81 rfl ?_
  refine sw_iload_n dX10_turns_83 rfl ?_
  refine sw_iconst (v := 0) dX10_turns_84 (by decide) ?_
  refine sw_cV (M := m_X10_turns) dX10_turns_85 lv_X10_114 hm5 hr5 rfl (by decide) rfl rfl rfl (Nat.le_of_ble_eq_true rfl) (fun _ _ => rfl) rfl ?_
  show SW sc m_X10_turns _ _ _ 88 [some (.ref r0), some (.int l1), some (.int l2), some (.int l3), some (.int l4), some (.int l5), none, some (.int l7)] [.int v5, .int s0] g5 P
  refine sw_iload dX10_turns_88 rfl ?_
  exact sw_icmp_ne dX10_turns_90 (by decide) (fun q => (kt q)) (fun q => (kf q))
theorem b_X10_turns_93 {r0 : Nat} {l1 : Int32} {l2 : Int32} {l3 : Int32} {l4 : Int32} {l5 : Int32} {l7 : Int32} {s0 : Int32} (k : SW sc m_X10_turns d rc rs 98 [some (.ref r0), some (.int l1), some (.int l2), some (.int l3), some (.int l4), some (.int l5), none, some (.int l7)] [.int 1, .int s0] h P) : SW sc m_X10_turns d rc rs 93 [some (.ref r0), some (.int l1), some (.int l2), some (.int l3), some (.int l4), some (.int l5), none, some (.int l7)] [.int s0] h P := by
  refine sw_iconst (v := 1) dX10_turns_93 (by decide) ?_
  exact sw_goto dX10_turns_94 (by decide) (k)
theorem b_X10_turns_97 {r0 : Nat} {l1 : Int32} {l2 : Int32} {l3 : Int32} {l4 : Int32} {l5 : Int32} {l7 : Int32} {s0 : Int32} (k : SW sc m_X10_turns d rc rs 98 [some (.ref r0), some (.int l1), some (.int l2), some (.int l3), some (.int l4), some (.int l5), none, some (.int l7)] [.int 0, .int s0] h P) : SW sc m_X10_turns d rc rs 97 [some (.ref r0), some (.int l1), some (.int l2), some (.int l3), some (.int l4), some (.int l5), none, some (.int l7)] [.int s0] h P := by
  refine sw_iconst (v := 0) dX10_turns_97 (by decide) ?_
  exact (k)
theorem b_X10_turns_98 {r0 : Nat} {l1 : Int32} {l2 : Int32} {l3 : Int32} {l4 : Int32} {l5 : Int32} {l7 : Int32} {s0 : Int32} {s1 : Int32} (k : SW sc m_X10_turns d rc rs 52 [some (.ref r0), some (.int l1), some (.int l2), some (.int l3), some (.int l4), some (.int l5), some (.int (s0 + s1)), some (.int (l7 + 1))] [] h P) : SW sc m_X10_turns d rc rs 98 [some (.ref r0), some (.int l1), some (.int l2), some (.int l3), some (.int l4), some (.int l5), none, some (.int l7)] [.int s1, .int s0] h P := by
  refine sw_iadd dX10_turns_98 ?_
  refine sw_istore dX10_turns_99 (by decide) rfl ?_
  show SW sc m_X10_turns _ _ _ 101 [some (.ref r0), some (.int l1), some (.int l2), some (.int l3), some (.int l4), some (.int l5), some (.int (s0 + s1)), some (.int l7)] [] h P
  refine sw_iinc (v := l7 + 1) dX10_turns_101 rfl rfl (by decide) rfl ?_
  show SW sc m_X10_turns _ _ _ 104 [some (.ref r0), some (.int l1), some (.int l2), some (.int l3), some (.int l4), some (.int l5), some (.int (s0 + s1)), some (.int (l7 + 1))] [] h P
  exact sw_goto dX10_turns_104 (by decide) (k)
theorem b_X10_turns_107 {r0 : Nat} {l1 : Int32} {l2 : Int32} {l3 : Int32} {l4 : Int32} {l6 : Int32} {v6 : Int32} {g6 : ab_H} {fs6 : List Value} (hr6 : (h)[r0]? = some (10, fs6)) (hm6 : MSE m_X10_turns d [.ref r0, .int l4, .int l1] h (some (.int v6)) g6) (k : SW sc m_X10_turns (d + 1) rc rs 120 [some (.ref r0), some (.int l1), some (.int l2), some (.int (l3 * (l6 * v6))), some (.int l4), none, none, none] [] g6 P) : SW sc m_X10_turns (d + 1) rc rs 107 [some (.ref r0), some (.int l1), some (.int l2), some (.int l3), some (.int l4), none, some (.int l6), none] [] h P := by
  refine sw_iload_n dX10_turns_107 rfl ?_
  refine sw_iload dX10_turns_108 rfl ?_
  refine sw_aload_n dX10_turns_110 rfl ?_
  refine sw_iload dX10_turns_111 rfl ?_
  refine sw_iload_n dX10_turns_113 rfl ?_
  refine sw_cV (M := m_X10_turns) dX10_turns_114 lv_X10_127 hm6 hr6 rfl (by decide) rfl rfl rfl (Nat.le_of_ble_eq_true rfl) (fun _ _ => rfl) rfl ?_
  show SW sc m_X10_turns _ _ _ 117 [some (.ref r0), some (.int l1), some (.int l2), some (.int l3), some (.int l4), none, some (.int l6), none] [.int v6, .int l6, .int l3] g6 P
  refine sw_imul dX10_turns_117 ?_
  refine sw_imul dX10_turns_118 ?_
  refine sw_istore_n dX10_turns_119 (by decide) rfl ?_
  show SW sc m_X10_turns _ _ _ 120 [some (.ref r0), some (.int l1), some (.int l2), some (.int (l3 * (l6 * v6))), some (.int l4), none, some (.int l6), none] [] g6 P
  exact (sw_fg [false, false, false, false, false, false, true, false] rfl (k))
theorem b_X10_turns_120 {r0 : Nat} {l1 : Int32} {l2 : Int32} {l3 : Int32} {l4 : Int32} (k : SW sc m_X10_turns d rc rs 5 [some (.ref r0), some (.int l1), some (.int l2), some (.int l3), some (.int (l4 + 1)), none, none, none] [] h P) : SW sc m_X10_turns d rc rs 120 [some (.ref r0), some (.int l1), some (.int l2), some (.int l3), some (.int l4), none, none, none] [] h P := by
  refine sw_iinc (v := l4 + 1) dX10_turns_120 rfl rfl (by decide) rfl ?_
  show SW sc m_X10_turns _ _ _ 123 [some (.ref r0), some (.int l1), some (.int l2), some (.int l3), some (.int (l4 + 1)), none, none, none] [] h P
  exact sw_goto dX10_turns_123 (by decide) (k)
theorem b_X10_turns_126 {l3 : Int32} (hP : P (.inl (some (.int l3))) h) : SW sc m_X10_turns d rc rs 126 [none, none, none, some (.int l3), none, none, none, none] [] h P := by
  refine sw_iload_n dX10_turns_126 rfl ?_
  exact sw_ret (v := (some (.int l3))) dX10_turns_127 rt_i hP
theorem b_X10_symmetriesOf_0 {r0 : Nat} {l1 : Int32} {v2 : Int32} {g2 : ab_H} {v6 : Int32} {g6 : ab_H} {fs6 : List Value} {v7 : Int32} {g7 : ab_H} {v11 : Int32} {g11 : ab_H} {fs11 : List Value} (hm2 : MSE m_X10_lowest d [.int l1] h (some (.int v2)) g2) (hr6 : (g2)[r0]? = some (10, fs6)) (hm6 : MSE m_X10_orbit d [.ref r0, .int v2] g2 (some (.int v6)) g6) (hm7 : MSE m_X10_ones d [.int v6] g6 (some (.int v7)) g7) (hr11 : (g7)[r0]? = some (10, fs11)) (hm11 : MSE m_X10_turns d [.ref r0, .int v2, .int (-1)] g7 (some (.int v11)) g11) (hP : P (.inl (some (.int (v7 * v11)))) g11) : SW sc m_X10_symmetriesOf (d + 1) rc rs 0 [some (.ref r0), some (.int l1), none] [] h P := by
  refine sw_iload_n dX10_symmetriesOf_0 rfl ?_
  refine sw_cS (M := m_X10_symmetriesOf) dX10_symmetriesOf_1 ls_X10_87 hm2 rfl rfl (Nat.le_of_ble_eq_true rfl) (fun _ _ => rfl) rfl ?_
  show SW sc m_X10_symmetriesOf _ _ _ 4 [some (.ref r0), some (.int l1), none] [.int v2] g2 P
  refine sw_istore_n dX10_symmetriesOf_4 (by decide) rfl ?_
  show SW sc m_X10_symmetriesOf _ _ _ 5 [some (.ref r0), some (.int l1), some (.int v2)] [] g2 P
  refine sw_aload_n dX10_symmetriesOf_5 rfl ?_
  refine sw_iload_n dX10_symmetriesOf_6 rfl ?_
  refine sw_cV (M := m_X10_symmetriesOf) dX10_symmetriesOf_7 lv_X10_130 hm6 hr6 rfl (by decide) rfl rfl rfl (Nat.le_of_ble_eq_true rfl) (fun _ _ => rfl) rfl ?_
  show SW sc m_X10_symmetriesOf _ _ _ 10 [some (.ref r0), some (.int l1), some (.int v2)] [.int v6] g6 P
  refine sw_cS (M := m_X10_symmetriesOf) dX10_symmetriesOf_10 ls_X10_111 hm7 rfl rfl (Nat.le_of_ble_eq_true rfl) (fun _ _ => rfl) rfl ?_
  show SW sc m_X10_symmetriesOf _ _ _ 13 [some (.ref r0), some (.int l1), some (.int v2)] [.int v7] g7 P
  refine sw_aload_n dX10_symmetriesOf_13 rfl ?_
  refine sw_iload_n dX10_symmetriesOf_14 rfl ?_
  refine sw_iconst (v := (-1)) dX10_symmetriesOf_15 (by decide) ?_
  refine sw_cV (M := m_X10_symmetriesOf) dX10_symmetriesOf_16 lv_X10_127 hm11 hr11 rfl (by decide) rfl rfl rfl (Nat.le_of_ble_eq_true rfl) (fun _ _ => rfl) rfl ?_
  show SW sc m_X10_symmetriesOf _ _ _ 19 [some (.ref r0), some (.int l1), some (.int v2)] [.int v11, .int v7] g11 P
  refine sw_imul dX10_symmetriesOf_19 ?_
  exact sw_ret (v := (some (.int (v7 * v11)))) dX10_symmetriesOf_20 rt_i hP
theorem b_X10_classAt_0 {r0 : Nat} {l1 : Int32} {v4 : Int32} {g4 : ab_H} {fs4 : List Value} {v5 : Int32} {g5 : ab_H} {fs5 : List Value} (hr4 : (h)[r0]? = some (10, fs4)) (hm4 : MSE m_X10_componentAt d [.ref r0, .int l1] h (some (.int v4)) g4) (hr5 : (g4)[r0]? = some (10, fs5)) (hm5 : MSE m_X10_wordOfSet d [.ref r0, .int v4] g4 (some (.int v5)) g5) (k : SW sc m_X10_classAt (d + 1) rc rs 15 [some (.ref r0), some (.int l1), some (.int v5), some (.int 0), some (.int 0), none] [] g5 P) : SW sc m_X10_classAt (d + 1) rc rs 0 [some (.ref r0), some (.int l1), none, none, none, none] [] h P := by
  refine sw_aload_n dX10_classAt_0 rfl ?_
  refine sw_aload_n dX10_classAt_1 rfl ?_
  refine sw_iload_n dX10_classAt_2 rfl ?_
  refine sw_cV (M := m_X10_classAt) dX10_classAt_3 lv_X10_133 hm4 hr4 rfl (by decide) rfl rfl rfl (Nat.le_of_ble_eq_true rfl) (fun _ _ => rfl) rfl ?_
  show SW sc m_X10_classAt _ _ _ 6 [some (.ref r0), some (.int l1), none, none, none, none] [.int v4, .ref r0] g4 P
  refine sw_cV (M := m_X10_classAt) dX10_classAt_6 lv_X10_136 hm5 hr5 rfl (by decide) rfl rfl rfl (Nat.le_of_ble_eq_true rfl) (fun _ _ => rfl) rfl ?_
  show SW sc m_X10_classAt _ _ _ 9 [some (.ref r0), some (.int l1), none, none, none, none] [.int v5] g5 P
  refine sw_istore_n dX10_classAt_9 (by decide) rfl ?_
  show SW sc m_X10_classAt _ _ _ 10 [some (.ref r0), some (.int l1), some (.int v5), none, none, none] [] g5 P
  refine sw_iconst (v := 0) dX10_classAt_10 (by decide) ?_
  refine sw_istore_n dX10_classAt_11 (by decide) rfl ?_
  show SW sc m_X10_classAt _ _ _ 12 [some (.ref r0), some (.int l1), some (.int v5), some (.int 0), none, none] [] g5 P
  refine sw_iconst (v := 0) dX10_classAt_12 (by decide) ?_
  refine sw_istore dX10_classAt_13 (by decide) rfl ?_
  show SW sc m_X10_classAt _ _ _ 15 [some (.ref r0), some (.int l1), some (.int v5), some (.int 0), some (.int 0), none] [] g5 P
  exact (k)
theorem b_X10_classAt_15 {r0 : Nat} {l1 : Int32} {l2 : Int32} {l3 : Int32} {l4 : Int32} (kt : l1 ≤ l4 → SW sc m_X10_classAt d rc rs 69 [none, none, none, some (.int l3), none, none] [] h P) (kf : ¬ (l1 ≤ l4) → SW sc m_X10_classAt d rc rs 21 [some (.ref r0), some (.int l1), some (.int l2), some (.int l3), some (.int l4), none] [] h P) : SW sc m_X10_classAt d rc rs 15 [some (.ref r0), some (.int l1), some (.int l2), some (.int l3), some (.int l4), none] [] h P := by
  refine sw_iload dX10_classAt_15 rfl ?_
  refine sw_iload_n dX10_classAt_17 rfl ?_
  exact sw_icmp_ge dX10_classAt_18 (by decide) (fun q => (sw_fg [true, true, true, false, true, false] rfl (kt q))) (fun q => (kf q))
theorem b_X10_classAt_21 {r0 : Nat} {l1 : Int32} {l2 : Int32} {l3 : Int32} {l4 : Int32} {v4 : Int32} {g4 : ab_H} {fs4 : List Value} {v5 : Int32} {g5 : ab_H} {fs5 : List Value} (hr4 : (h)[r0]? = some (10, fs4)) (hm4 : MSE m_X10_componentAt d [.ref r0, .int l4] h (some (.int v4)) g4) (hr5 : (g4)[r0]? = some (10, fs5)) (hm5 : MSE m_X10_wordOfSet d [.ref r0, .int v4] g4 (some (.int v5)) g5) (kt : ¬ v5 = l2 → SW sc m_X10_classAt (d + 1) rc rs 46 [some (.ref r0), some (.int l1), some (.int l2), some (.int l3), some (.int l4), none] [] g5 P) (kf : v5 = l2 → SW sc m_X10_classAt (d + 1) rc rs 39 [some (.ref r0), none, none, none, some (.int l4), none] [] g5 P) : SW sc m_X10_classAt (d + 1) rc rs 21 [some (.ref r0), some (.int l1), some (.int l2), some (.int l3), some (.int l4), none] [] h P := by
  refine sw_aload_n dX10_classAt_21 rfl ?_
  refine sw_aload_n dX10_classAt_22 rfl ?_
  refine sw_iload dX10_classAt_23 rfl ?_
  refine sw_cV (M := m_X10_classAt) dX10_classAt_25 lv_X10_133 hm4 hr4 rfl (by decide) rfl rfl rfl (Nat.le_of_ble_eq_true rfl) (fun _ _ => rfl) rfl ?_
  show SW sc m_X10_classAt _ _ _ 28 [some (.ref r0), some (.int l1), some (.int l2), some (.int l3), some (.int l4), none] [.int v4, .ref r0] g4 P
  refine sw_cV (M := m_X10_classAt) dX10_classAt_28 lv_X10_136 hm5 hr5 rfl (by decide) rfl rfl rfl (Nat.le_of_ble_eq_true rfl) (fun _ _ => rfl) rfl ?_
  show SW sc m_X10_classAt _ _ _ 31 [some (.ref r0), some (.int l1), some (.int l2), some (.int l3), some (.int l4), none] [.int v5] g5 P
  refine sw_istore dX10_classAt_31 (by decide) rfl ?_
  show SW sc m_X10_classAt _ _ _ 33 [some (.ref r0), some (.int l1), some (.int l2), some (.int l3), some (.int l4), some (.int v5)] [] g5 P
  refine sw_iload dX10_classAt_33 rfl ?_
  refine sw_iload_n dX10_classAt_35 rfl ?_
  exact sw_icmp_ne dX10_classAt_36 (by decide) (fun q => (sw_fg [false, false, false, false, false, true] rfl (kt q))) (fun q => (sw_fg [false, true, true, true, false, true] rfl (kf q)))
theorem b_X10_classAt_39 {r0 : Nat} {l4 : Int32} {v3 : Int32} {g3 : ab_H} {fs3 : List Value} (hr3 : (h)[r0]? = some (10, fs3)) (hm3 : MSE m_X10_classAt d [.ref r0, .int l4] h (some (.int v3)) g3) (hP : P (.inl (some (.int v3))) g3) : SW sc m_X10_classAt (d + 1) rc rs 39 [some (.ref r0), none, none, none, some (.int l4), none] [] h P := by
  refine sw_aload_n dX10_classAt_39 rfl ?_
  refine sw_iload dX10_classAt_40 rfl ?_
  refine sw_cV (M := m_X10_classAt) dX10_classAt_42 lv_X10_139 hm3 hr3 rfl (by decide) rfl rfl rfl (Nat.le_of_ble_eq_true rfl) (fun _ _ => rfl) rfl ?_
  show SW sc m_X10_classAt _ _ _ 45 [some (.ref r0), none, none, none, some (.int l4), none] [.int v3] g3 P
  exact sw_ret (v := (some (.int v3))) dX10_classAt_45 rt_i hP
theorem b_X10_classAt_46 {r0 : Nat} {l1 : Int32} {l2 : Int32} {l3 : Int32} {l4 : Int32} {v4 : Int32} {g4 : ab_H} {fs4 : List Value} (hr4 : (h)[r0]? = some (10, fs4)) (hm4 : MSE m_X10_isNew d [.ref r0, .int l4] h (some (.int v4)) g4) (kt : v4 = 0 → SW sc m_X10_classAt (d + 1) rc rs 60 [some (.ref r0), some (.int l1), some (.int l2), none, some (.int l4), none] [.int l3] g4 P) (kf : ¬ (v4 = 0) → SW sc m_X10_classAt (d + 1) rc rs 56 [some (.ref r0), some (.int l1), some (.int l2), none, some (.int l4), none] [.int l3] g4 P) : SW sc m_X10_classAt (d + 1) rc rs 46 [some (.ref r0), some (.int l1), some (.int l2), some (.int l3), some (.int l4), none] [] h P := by
  refine sw_iload_n dX10_classAt_46 rfl ?_
  refine sw_aload_n dX10_classAt_47 rfl ?_
  refine sw_iload dX10_classAt_48 rfl ?_
  refine sw_cV (M := m_X10_classAt) dX10_classAt_50 lv_X10_142 hm4 hr4 rfl (by decide) rfl rfl rfl (Nat.le_of_ble_eq_true rfl) (fun _ _ => rfl) rfl ?_
  show SW sc m_X10_classAt _ _ _ 53 [some (.ref r0), some (.int l1), some (.int l2), some (.int l3), some (.int l4), none] [.int v4, .int l3] g4 P
  exact sw_if_eq dX10_classAt_53 (by decide) (fun q => (sw_fg [false, false, false, true, false, false] rfl (kt q))) (fun q => (sw_fg [false, false, false, true, false, false] rfl (kf q)))
theorem b_X10_classAt_56 {r0 : Nat} {l1 : Int32} {l2 : Int32} {l4 : Int32} {s0 : Int32} (k : SW sc m_X10_classAt d rc rs 61 [some (.ref r0), some (.int l1), some (.int l2), none, some (.int l4), none] [.int 1, .int s0] h P) : SW sc m_X10_classAt d rc rs 56 [some (.ref r0), some (.int l1), some (.int l2), none, some (.int l4), none] [.int s0] h P := by
  refine sw_iconst (v := 1) dX10_classAt_56 (by decide) ?_
  exact sw_goto dX10_classAt_57 (by decide) (k)
theorem b_X10_classAt_60 {r0 : Nat} {l1 : Int32} {l2 : Int32} {l4 : Int32} {s0 : Int32} (k : SW sc m_X10_classAt d rc rs 61 [some (.ref r0), some (.int l1), some (.int l2), none, some (.int l4), none] [.int 0, .int s0] h P) : SW sc m_X10_classAt d rc rs 60 [some (.ref r0), some (.int l1), some (.int l2), none, some (.int l4), none] [.int s0] h P := by
  refine sw_iconst (v := 0) dX10_classAt_60 (by decide) ?_
  exact (k)
theorem b_X10_classAt_61 {r0 : Nat} {l1 : Int32} {l2 : Int32} {l4 : Int32} {s0 : Int32} {s1 : Int32} (k : SW sc m_X10_classAt d rc rs 15 [some (.ref r0), some (.int l1), some (.int l2), some (.int (s0 + s1)), some (.int (l4 + 1)), none] [] h P) : SW sc m_X10_classAt d rc rs 61 [some (.ref r0), some (.int l1), some (.int l2), none, some (.int l4), none] [.int s1, .int s0] h P := by
  refine sw_iadd dX10_classAt_61 ?_
  refine sw_istore_n dX10_classAt_62 (by decide) rfl ?_
  show SW sc m_X10_classAt _ _ _ 63 [some (.ref r0), some (.int l1), some (.int l2), some (.int (s0 + s1)), some (.int l4), none] [] h P
  refine sw_iinc (v := l4 + 1) dX10_classAt_63 rfl rfl (by decide) rfl ?_
  show SW sc m_X10_classAt _ _ _ 66 [some (.ref r0), some (.int l1), some (.int l2), some (.int (s0 + s1)), some (.int (l4 + 1)), none] [] h P
  exact sw_goto dX10_classAt_66 (by decide) (k)
theorem b_X10_classAt_69 {l3 : Int32} (hP : P (.inl (some (.int l3))) h) : SW sc m_X10_classAt d rc rs 69 [none, none, none, some (.int l3), none, none] [] h P := by
  refine sw_iload_n dX10_classAt_69 rfl ?_
  exact sw_ret (v := (some (.int l3))) dX10_classAt_70 rt_i hP
theorem b_X10_isNew_0 {r0 : Nat} {l1 : Int32} {v4 : Int32} {g4 : ab_H} {fs4 : List Value} {v5 : Int32} {g5 : ab_H} {fs5 : List Value} (hr4 : (h)[r0]? = some (10, fs4)) (hm4 : MSE m_X10_componentAt d [.ref r0, .int l1] h (some (.int v4)) g4) (hr5 : (g4)[r0]? = some (10, fs5)) (hm5 : MSE m_X10_wordOfSet d [.ref r0, .int v4] g4 (some (.int v5)) g5) (k : SW sc m_X10_isNew (d + 1) rc rs 12 [some (.ref r0), some (.int l1), some (.int v5), some (.int 0)] [] g5 P) : SW sc m_X10_isNew (d + 1) rc rs 0 [some (.ref r0), some (.int l1), none, none] [] h P := by
  refine sw_aload_n dX10_isNew_0 rfl ?_
  refine sw_aload_n dX10_isNew_1 rfl ?_
  refine sw_iload_n dX10_isNew_2 rfl ?_
  refine sw_cV (M := m_X10_isNew) dX10_isNew_3 lv_X10_133 hm4 hr4 rfl (by decide) rfl rfl rfl (Nat.le_of_ble_eq_true rfl) (fun _ _ => rfl) rfl ?_
  show SW sc m_X10_isNew _ _ _ 6 [some (.ref r0), some (.int l1), none, none] [.int v4, .ref r0] g4 P
  refine sw_cV (M := m_X10_isNew) dX10_isNew_6 lv_X10_136 hm5 hr5 rfl (by decide) rfl rfl rfl (Nat.le_of_ble_eq_true rfl) (fun _ _ => rfl) rfl ?_
  show SW sc m_X10_isNew _ _ _ 9 [some (.ref r0), some (.int l1), none, none] [.int v5] g5 P
  refine sw_istore_n dX10_isNew_9 (by decide) rfl ?_
  show SW sc m_X10_isNew _ _ _ 10 [some (.ref r0), some (.int l1), some (.int v5), none] [] g5 P
  refine sw_iconst (v := 0) dX10_isNew_10 (by decide) ?_
  refine sw_istore_n dX10_isNew_11 (by decide) rfl ?_
  show SW sc m_X10_isNew _ _ _ 12 [some (.ref r0), some (.int l1), some (.int v5), some (.int 0)] [] g5 P
  exact (k)
theorem b_X10_isNew_12 {r0 : Nat} {l1 : Int32} {l2 : Int32} {l3 : Int32} (kt : l1 ≤ l3 → SW sc m_X10_isNew d rc rs 38 [none, none, none, none] [] h P) (kf : ¬ (l1 ≤ l3) → SW sc m_X10_isNew d rc rs 17 [some (.ref r0), some (.int l1), some (.int l2), some (.int l3)] [] h P) : SW sc m_X10_isNew d rc rs 12 [some (.ref r0), some (.int l1), some (.int l2), some (.int l3)] [] h P := by
  refine sw_iload_n dX10_isNew_12 rfl ?_
  refine sw_iload_n dX10_isNew_13 rfl ?_
  exact sw_icmp_ge dX10_isNew_14 (by decide) (fun q => (sw_fg [true, true, true, true] rfl (kt q))) (fun q => (kf q))
theorem b_X10_isNew_17 {r0 : Nat} {l1 : Int32} {l2 : Int32} {l3 : Int32} {v4 : Int32} {g4 : ab_H} {fs4 : List Value} {v5 : Int32} {g5 : ab_H} {fs5 : List Value} (hr4 : (h)[r0]? = some (10, fs4)) (hm4 : MSE m_X10_componentAt d [.ref r0, .int l3] h (some (.int v4)) g4) (hr5 : (g4)[r0]? = some (10, fs5)) (hm5 : MSE m_X10_wordOfSet d [.ref r0, .int v4] g4 (some (.int v5)) g5) (kt : ¬ v5 = l2 → SW sc m_X10_isNew (d + 1) rc rs 32 [some (.ref r0), some (.int l1), some (.int l2), some (.int l3)] [] g5 P) (kf : v5 = l2 → SW sc m_X10_isNew (d + 1) rc rs 30 [none, none, none, none] [] g5 P) : SW sc m_X10_isNew (d + 1) rc rs 17 [some (.ref r0), some (.int l1), some (.int l2), some (.int l3)] [] h P := by
  refine sw_aload_n dX10_isNew_17 rfl ?_
  refine sw_aload_n dX10_isNew_18 rfl ?_
  refine sw_iload_n dX10_isNew_19 rfl ?_
  refine sw_cV (M := m_X10_isNew) dX10_isNew_20 lv_X10_133 hm4 hr4 rfl (by decide) rfl rfl rfl (Nat.le_of_ble_eq_true rfl) (fun _ _ => rfl) rfl ?_
  show SW sc m_X10_isNew _ _ _ 23 [some (.ref r0), some (.int l1), some (.int l2), some (.int l3)] [.int v4, .ref r0] g4 P
  refine sw_cV (M := m_X10_isNew) dX10_isNew_23 lv_X10_136 hm5 hr5 rfl (by decide) rfl rfl rfl (Nat.le_of_ble_eq_true rfl) (fun _ _ => rfl) rfl ?_
  show SW sc m_X10_isNew _ _ _ 26 [some (.ref r0), some (.int l1), some (.int l2), some (.int l3)] [.int v5] g5 P
  refine sw_iload_n dX10_isNew_26 rfl ?_
  exact sw_icmp_ne dX10_isNew_27 (by decide) (fun q => (kt q)) (fun q => (sw_fg [true, true, true, true] rfl (kf q)))
theorem b_X10_isNew_30  (hP : P (.inl (some (.int 0))) h) : SW sc m_X10_isNew d rc rs 30 [none, none, none, none] [] h P := by
  refine sw_iconst (v := 0) dX10_isNew_30 (by decide) ?_
  exact sw_ret (v := (some (.int 0))) dX10_isNew_31 (rt_n (by decide)) hP
theorem b_X10_isNew_32 {r0 : Nat} {l1 : Int32} {l2 : Int32} {l3 : Int32} (k : SW sc m_X10_isNew d rc rs 12 [some (.ref r0), some (.int l1), some (.int l2), some (.int (l3 + 1))] [] h P) : SW sc m_X10_isNew d rc rs 32 [some (.ref r0), some (.int l1), some (.int l2), some (.int l3)] [] h P := by
  refine sw_iinc (v := l3 + 1) dX10_isNew_32 rfl rfl (by decide) rfl ?_
  show SW sc m_X10_isNew _ _ _ 35 [some (.ref r0), some (.int l1), some (.int l2), some (.int (l3 + 1))] [] h P
  exact sw_goto dX10_isNew_35 (by decide) (k)
theorem b_X10_isNew_38  (hP : P (.inl (some (.int 1))) h) : SW sc m_X10_isNew d rc rs 38 [none, none, none, none] [] h P := by
  refine sw_iconst (v := 1) dX10_isNew_38 (by decide) ?_
  exact sw_ret (v := (some (.int 1))) dX10_isNew_39 (rt_n (by decide)) hP
theorem b_X10_adds_0 {r0 : Nat} {l1 : Int32} (k : SW sc m_X10_adds d rc rs 3 [some (.ref r0), some (.int l1), some (.int 24)] [] h P) : SW sc m_X10_adds d rc rs 0 [some (.ref r0), some (.int l1), none] [] h P := by
  refine sw_bipush (v := 24) dX10_adds_0 (by decide) ?_
  refine sw_istore_n dX10_adds_2 (by decide) rfl ?_
  show SW sc m_X10_adds _ _ _ 3 [some (.ref r0), some (.int l1), some (.int 24)] [] h P
  exact (k)
theorem b_X10_adds_3 {r0 : Nat} {l1 : Int32} {l2 : Int32} (kt : l2 < 0 → SW sc m_X10_adds d rc rs 39 [none, none, none] [] h P) (kf : ¬ (l2 < 0) → SW sc m_X10_adds d rc rs 7 [some (.ref r0), some (.int l1), some (.int l2)] [] h P) : SW sc m_X10_adds d rc rs 3 [some (.ref r0), some (.int l1), some (.int l2)] [] h P := by
  refine sw_iload_n dX10_adds_3 rfl ?_
  exact sw_if_lt dX10_adds_4 (by decide) (fun q => (sw_fg [true, true, true] rfl (kt q))) (fun q => (kf q))
theorem b_X10_adds_7 {r0 : Nat} {l1 : Int32} {l2 : Int32} {fs2 : List Value} {a2 : Nat} {fs4 : List Value} {x4 : Int32} {vs10 : List Value} {fs13 : List Value} {x13 : Int32} {fs16 : List Value} (hc2 : (h)[r0]? = some (10, fs2)) (hv2 : fs2[12]? = some (.ref a2)) (hc4 : (h)[r0]? = some (10, fs4)) (hv4 : fs4[13]? = some (.int x4)) (hc10 : (h)[a2]? = some (100, vs10)) (ho10 : ¬ x4 < 0) (hl10 : x4.toNatClampNeg < vs10.length) (hc13 : ((h).set a2 (100, vs10.set x4.toNatClampNeg (.int (((l1.toUInt32 >>> (l2.toUInt32 &&& Int32.toUInt32 31)).toInt32) &&& 255))))[r0]? = some (10, fs13)) (hv13 : fs13[13]? = some (.int x13)) (hc16 : ((h).set a2 (100, vs10.set x4.toNatClampNeg (.int (((l1.toUInt32 >>> (l2.toUInt32 &&& Int32.toUInt32 31)).toInt32) &&& 255))))[r0]? = some (10, fs16)) (hk16 : 13 < fs16.length) (k : SW sc m_X10_adds d rc rs 3 [some (.ref r0), some (.int l1), some (.int (l2 + (-8)))] [] (((h).set a2 (100, vs10.set x4.toNatClampNeg (.int (((l1.toUInt32 >>> (l2.toUInt32 &&& Int32.toUInt32 31)).toInt32) &&& 255)))).set r0 (10, fs16.set 13 (.int (x13 + 1)))) P) : SW sc m_X10_adds d rc rs 7 [some (.ref r0), some (.int l1), some (.int l2)] [] h P := by
  refine sw_aload_n dX10_adds_7 rfl ?_
  refine sw_getf dX10_adds_8 lf_X10_41 hc2 hv2 ?_
  refine sw_aload_n dX10_adds_11 rfl ?_
  refine sw_getf dX10_adds_12 lf_X10_146 hc4 hv4 ?_
  refine sw_iload_n dX10_adds_15 rfl ?_
  refine sw_iload_n dX10_adds_16 rfl ?_
  refine sw_iushr dX10_adds_17 ?_
  refine sw_sipush (v := 255) dX10_adds_18 (by decide) ?_
  refine sw_iand dX10_adds_21 ?_
  refine sw_iast dX10_adds_22 hc10 ho10 hl10 ?_
  refine sw_aload_n dX10_adds_23 rfl ?_
  refine sw_dup dX10_adds_24 (fun _ _ => rfl) ?_
  refine sw_getf dX10_adds_25 lf_X10_146 hc13 hv13 ?_
  refine sw_iconst (v := 1) dX10_adds_28 (by decide) ?_
  refine sw_iadd dX10_adds_29 ?_
  refine sw_putf dX10_adds_30 lp_X10_146 hc16 hk16 (fun _ _ => ⟨rfl, rfl⟩) ?_
  refine sw_iinc (v := l2 + (-8)) dX10_adds_33 rfl rfl (by decide) rfl ?_
  show SW sc m_X10_adds _ _ _ 36 [some (.ref r0), some (.int l1), some (.int (l2 + (-8)))] [] (((h).set a2 (100, vs10.set x4.toNatClampNeg (.int (((l1.toUInt32 >>> (l2.toUInt32 &&& Int32.toUInt32 31)).toInt32) &&& 255)))).set r0 (10, fs16.set 13 (.int (x13 + 1)))) P
  exact sw_goto dX10_adds_36 (by decide) (k)
theorem b_X10_adds_39  (hP : P (.inl none) h) : SW sc m_X10_adds d rc rs 39 [none, none, none] [] h P := by
  exact sw_ret (v := none) dX10_adds_39 rt_v hP
theorem b_X10_append_0 {r0 : Nat} {l1 : Int32} {l2 : Int32} {l3 : Int32} {l4 : Int32} {l5 : Int32} {fs3 : List Value} {fs5 : List Value} {x5 : Int32} (hc3 : (h)[r0]? = some (10, fs3)) (hk3 : 0 < fs3.length) (hc5 : ((h).set r0 (10, fs3.set 0 (.int 0)))[r0]? = some (10, fs5)) (hv5 : fs5[13]? = some (.int x5)) (kt : (x5 + 20) ≤ 400 → SW sc m_X10_append d rc rs 20 [some (.ref r0), some (.int l1), some (.int l2), some (.int l3), some (.int l4), some (.int l5)] [] ((h).set r0 (10, fs3.set 0 (.int 0))) P) (kf : ¬ ((x5 + 20) ≤ 400) → SW sc m_X10_append d rc rs 18 [none, none, none, none, none, none] [] ((h).set r0 (10, fs3.set 0 (.int 0))) P) : SW sc m_X10_append d rc rs 0 [some (.ref r0), some (.int l1), some (.int l2), some (.int l3), some (.int l4), some (.int l5)] [] h P := by
  refine sw_aload_n dX10_append_0 rfl ?_
  refine sw_iconst (v := 0) dX10_append_1 (by decide) ?_
  refine sw_putf dX10_append_2 lp_X10_1 hc3 hk3 (fun _ _ => ⟨rfl, rfl⟩) ?_
  refine sw_aload_n dX10_append_5 rfl ?_
  refine sw_getf dX10_append_6 lf_X10_146 hc5 hv5 ?_
  refine sw_bipush (v := 20) dX10_append_9 (by decide) ?_
  refine sw_iadd dX10_append_11 ?_
  refine sw_sipush (v := 400) dX10_append_12 (by decide) ?_
  exact sw_icmp_le dX10_append_15 (by decide) (fun q => (kt q)) (fun q => (sw_fg [true, true, true, true, true, true] rfl (kf q)))
theorem b_X10_append_18  (hP : P (.inl (some (.int (-1)))) h) : SW sc m_X10_append d rc rs 18 [none, none, none, none, none, none] [] h P := by
  refine sw_iconst (v := (-1)) dX10_append_18 (by decide) ?_
  exact sw_ret (v := (some (.int (-1)))) dX10_append_19 rt_i hP
theorem b_X10_append_20 {r0 : Nat} {l1 : Int32} {l2 : Int32} {l3 : Int32} {l4 : Int32} {l5 : Int32} {g3 : ab_H} {fs3 : List Value} {g6 : ab_H} {fs6 : List Value} {g9 : ab_H} {fs9 : List Value} {g12 : ab_H} {fs12 : List Value} {g15 : ab_H} {fs15 : List Value} {fs17 : List Value} {x17 : Int32} (hr3 : (h)[r0]? = some (10, fs3)) (hm3 : MSE m_X10_adds d [.ref r0, .int l1] h none g3) (hr6 : (g3)[r0]? = some (10, fs6)) (hm6 : MSE m_X10_adds d [.ref r0, .int l2] g3 none g6) (hr9 : (g6)[r0]? = some (10, fs9)) (hm9 : MSE m_X10_adds d [.ref r0, .int l3] g6 none g9) (hr12 : (g9)[r0]? = some (10, fs12)) (hm12 : MSE m_X10_adds d [.ref r0, .int l4] g9 none g12) (hr15 : (g12)[r0]? = some (10, fs15)) (hm15 : MSE m_X10_adds d [.ref r0, .int l5] g12 none g15) (hc17 : (g15)[r0]? = some (10, fs17)) (hv17 : fs17[13]? = some (.int x17)) (hP : P (.inl (some (.int x17))) g15) : SW sc m_X10_append (d + 1) rc rs 20 [some (.ref r0), some (.int l1), some (.int l2), some (.int l3), some (.int l4), some (.int l5)] [] h P := by
  refine sw_aload_n dX10_append_20 rfl ?_
  refine sw_iload_n dX10_append_21 rfl ?_
  refine sw_cV (M := m_X10_append) dX10_append_22 lv_X10_149 hm3 hr3 rfl (by decide) rfl rfl rfl (Nat.le_of_ble_eq_true rfl) (fun _ _ => rfl) rfl ?_
  show SW sc m_X10_append _ _ _ 25 [some (.ref r0), some (.int l1), some (.int l2), some (.int l3), some (.int l4), some (.int l5)] [] g3 P
  refine sw_aload_n dX10_append_25 rfl ?_
  refine sw_iload_n dX10_append_26 rfl ?_
  refine sw_cV (M := m_X10_append) dX10_append_27 lv_X10_149 hm6 hr6 rfl (by decide) rfl rfl rfl (Nat.le_of_ble_eq_true rfl) (fun _ _ => rfl) rfl ?_
  show SW sc m_X10_append _ _ _ 30 [some (.ref r0), some (.int l1), some (.int l2), some (.int l3), some (.int l4), some (.int l5)] [] g6 P
  refine sw_aload_n dX10_append_30 rfl ?_
  refine sw_iload_n dX10_append_31 rfl ?_
  refine sw_cV (M := m_X10_append) dX10_append_32 lv_X10_149 hm9 hr9 rfl (by decide) rfl rfl rfl (Nat.le_of_ble_eq_true rfl) (fun _ _ => rfl) rfl ?_
  show SW sc m_X10_append _ _ _ 35 [some (.ref r0), some (.int l1), some (.int l2), some (.int l3), some (.int l4), some (.int l5)] [] g9 P
  refine sw_aload_n dX10_append_35 rfl ?_
  refine sw_iload dX10_append_36 rfl ?_
  refine sw_cV (M := m_X10_append) dX10_append_38 lv_X10_149 hm12 hr12 rfl (by decide) rfl rfl rfl (Nat.le_of_ble_eq_true rfl) (fun _ _ => rfl) rfl ?_
  show SW sc m_X10_append _ _ _ 41 [some (.ref r0), some (.int l1), some (.int l2), some (.int l3), some (.int l4), some (.int l5)] [] g12 P
  refine sw_aload_n dX10_append_41 rfl ?_
  refine sw_iload dX10_append_42 rfl ?_
  refine sw_cV (M := m_X10_append) dX10_append_44 lv_X10_149 hm15 hr15 rfl (by decide) rfl rfl rfl (Nat.le_of_ble_eq_true rfl) (fun _ _ => rfl) rfl ?_
  show SW sc m_X10_append _ _ _ 47 [some (.ref r0), some (.int l1), some (.int l2), some (.int l3), some (.int l4), some (.int l5)] [] g15 P
  refine sw_aload_n dX10_append_47 rfl ?_
  refine sw_getf dX10_append_48 lf_X10_146 hc17 hv17 ?_
  exact sw_ret (v := (some (.int x17))) dX10_append_51 rt_i hP
theorem b_X10_truncate_0 {r0 : Nat} {l1 : Int32} {fs3 : List Value} {fs7 : List Value} {x7 : Int32} {v8 : Int32} {g8 : ab_H} (hc3 : (h)[r0]? = some (10, fs3)) (hk3 : 0 < fs3.length) (hc7 : ((h).set r0 (10, fs3.set 0 (.int 0)))[r0]? = some (10, fs7)) (hv7 : fs7[13]? = some (.int x7)) (hm8 : MSE m_X10_isIn d [.int l1, .int 0, .int x7] ((h).set r0 (10, fs3.set 0 (.int 0))) (some (.int v8)) g8) (kt : ¬ v8 = 0 → SW sc m_X10_truncate (d + 1) rc rs 19 [some (.ref r0), some (.int l1)] [] g8 P) (kf : v8 = 0 → SW sc m_X10_truncate (d + 1) rc rs 17 [none, none] [] g8 P) : SW sc m_X10_truncate (d + 1) rc rs 0 [some (.ref r0), some (.int l1)] [] h P := by
  refine sw_aload_n dX10_truncate_0 rfl ?_
  refine sw_iconst (v := 0) dX10_truncate_1 (by decide) ?_
  refine sw_putf dX10_truncate_2 lp_X10_1 hc3 hk3 (fun _ _ => ⟨rfl, rfl⟩) ?_
  refine sw_iload_n dX10_truncate_5 rfl ?_
  refine sw_iconst (v := 0) dX10_truncate_6 (by decide) ?_
  refine sw_aload_n dX10_truncate_7 rfl ?_
  refine sw_getf dX10_truncate_8 lf_X10_146 hc7 hv7 ?_
  refine sw_cS (M := m_X10_truncate) dX10_truncate_11 ls_X10_153 hm8 rfl rfl (Nat.le_of_ble_eq_true rfl) (fun _ _ => rfl) rfl ?_
  show SW sc m_X10_truncate _ _ _ 14 [some (.ref r0), some (.int l1)] [.int v8] g8 P
  exact sw_if_ne dX10_truncate_14 (by decide) (fun q => (kt q)) (fun q => (sw_fg [true, true] rfl (kf q)))
theorem b_X10_truncate_17  (hP : P (.inl (some (.int 0))) h) : SW sc m_X10_truncate d rc rs 17 [none, none] [] h P := by
  refine sw_iconst (v := 0) dX10_truncate_17 (by decide) ?_
  exact sw_ret (v := (some (.int 0))) dX10_truncate_18 (rt_n (by decide)) hP
theorem b_X10_truncate_19 {r0 : Nat} {l1 : Int32} {fs3 : List Value} (hc3 : (h)[r0]? = some (10, fs3)) (hk3 : 13 < fs3.length) (hP : P (.inl (some (.int 1))) ((h).set r0 (10, fs3.set 13 (.int l1)))) : SW sc m_X10_truncate d rc rs 19 [some (.ref r0), some (.int l1)] [] h P := by
  refine sw_aload_n dX10_truncate_19 rfl ?_
  refine sw_iload_n dX10_truncate_20 rfl ?_
  refine sw_putf dX10_truncate_21 lp_X10_146 hc3 hk3 (fun _ _ => ⟨rfl, rfl⟩) ?_
  refine sw_iconst (v := 1) dX10_truncate_24 (by decide) ?_
  exact sw_ret (v := (some (.int 1))) dX10_truncate_25 (rt_n (by decide)) hP
theorem b_X10_bufferLength_0 {r0 : Nat} {fs3 : List Value} {fs5 : List Value} {x5 : Int32} (hc3 : (h)[r0]? = some (10, fs3)) (hk3 : 0 < fs3.length) (hc5 : ((h).set r0 (10, fs3.set 0 (.int 0)))[r0]? = some (10, fs5)) (hv5 : fs5[13]? = some (.int x5)) (hP : P (.inl (some (.int x5))) ((h).set r0 (10, fs3.set 0 (.int 0)))) : SW sc m_X10_bufferLength d rc rs 0 [some (.ref r0)] [] h P := by
  refine sw_aload_n dX10_bufferLength_0 rfl ?_
  refine sw_iconst (v := 0) dX10_bufferLength_1 (by decide) ?_
  refine sw_putf dX10_bufferLength_2 lp_X10_1 hc3 hk3 (fun _ _ => ⟨rfl, rfl⟩) ?_
  refine sw_aload_n dX10_bufferLength_5 rfl ?_
  refine sw_getf dX10_bufferLength_6 lf_X10_146 hc5 hv5 ?_
  exact sw_ret (v := (some (.int x5))) dX10_bufferLength_9 rt_i hP
theorem b_X10_byteAt_0 {r0 : Nat} {l1 : Int32} {fs3 : List Value} {x3 : Int32} (hc3 : (h)[r0]? = some (10, fs3)) (hv3 : fs3[14]? = some (.int x3)) (kt : x3 ≤ l1 → SW sc m_X10_byteAt d rc rs 17 [none, none] [] h P) (kf : ¬ (x3 ≤ l1) → SW sc m_X10_byteAt d rc rs 8 [some (.ref r0), some (.int l1)] [] h P) : SW sc m_X10_byteAt d rc rs 0 [some (.ref r0), some (.int l1)] [] h P := by
  refine sw_iload_n dX10_byteAt_0 rfl ?_
  refine sw_aload_n dX10_byteAt_1 rfl ?_
  refine sw_getf dX10_byteAt_2 lf_X10_157 hc3 hv3 ?_
  exact sw_icmp_ge dX10_byteAt_5 (by decide) (fun q => (sw_fg [true, true] rfl (kt q))) (fun q => (kf q))
theorem b_X10_byteAt_8 {r0 : Nat} {l1 : Int32} {fs2 : List Value} {a2 : Nat} {vs4 : List Value} {x4 : Int32} (hc2 : (h)[r0]? = some (10, fs2)) (hv2 : fs2[12]? = some (.ref a2)) (hc4 : (h)[a2]? = some (100, vs4)) (ho4 : ¬ l1 < 0) (hi4 : vs4[l1.toNatClampNeg]? = some (.int x4)) (k : SW sc m_X10_byteAt d rc rs 18 [none, none] [.int x4] h P) : SW sc m_X10_byteAt d rc rs 8 [some (.ref r0), some (.int l1)] [] h P := by
  refine sw_aload_n dX10_byteAt_8 rfl ?_
  refine sw_getf dX10_byteAt_9 lf_X10_41 hc2 hv2 ?_
  refine sw_iload_n dX10_byteAt_12 rfl ?_
  refine sw_iald dX10_byteAt_13 hc4 ho4 hi4 ?_
  exact sw_goto dX10_byteAt_14 (by decide) (sw_fg [true, true] rfl (k))
theorem b_X10_byteAt_17  (k : SW sc m_X10_byteAt d rc rs 18 [none, none] [.int (-1)] h P) : SW sc m_X10_byteAt d rc rs 17 [none, none] [] h P := by
  refine sw_iconst (v := (-1)) dX10_byteAt_17 (by decide) ?_
  exact (k)
theorem b_X10_byteAt_18 {s0 : Int32} (hP : P (.inl (some (.int s0))) h) : SW sc m_X10_byteAt d rc rs 18 [none, none] [.int s0] h P := by
  exact sw_ret (v := (some (.int s0))) dX10_byteAt_18 rt_i hP
theorem b_X10_isSmall_0 {l0 : Int32} (kt : l0 < 97 → SW sc m_X10_isSmall d rc rs 16 [none] [] h P) (kf : ¬ (l0 < 97) → SW sc m_X10_isSmall d rc rs 6 [some (.int l0)] [] h P) : SW sc m_X10_isSmall d rc rs 0 [some (.int l0)] [] h P := by
  refine sw_iload_n dX10_isSmall_0 rfl ?_
  refine sw_bipush (v := 97) dX10_isSmall_1 (by decide) ?_
  exact sw_icmp_lt dX10_isSmall_3 (by decide) (fun q => (sw_fg [true] rfl (kt q))) (fun q => (kf q))
theorem b_X10_isSmall_6 {l0 : Int32} (kt : 122 < l0 → SW sc m_X10_isSmall d rc rs 16 [none] [] h P) (kf : ¬ (122 < l0) → SW sc m_X10_isSmall d rc rs 12 [none] [] h P) : SW sc m_X10_isSmall d rc rs 6 [some (.int l0)] [] h P := by
  refine sw_iload_n dX10_isSmall_6 rfl ?_
  refine sw_bipush (v := 122) dX10_isSmall_7 (by decide) ?_
  exact sw_icmp_gt dX10_isSmall_9 (by decide) (fun q => (sw_fg [true] rfl (kt q))) (fun q => (sw_fg [true] rfl (kf q)))
theorem b_X10_isSmall_12  (k : SW sc m_X10_isSmall d rc rs 17 [none] [.int 1] h P) : SW sc m_X10_isSmall d rc rs 12 [none] [] h P := by
  refine sw_iconst (v := 1) dX10_isSmall_12 (by decide) ?_
  exact sw_goto dX10_isSmall_13 (by decide) (k)
theorem b_X10_isSmall_16  (k : SW sc m_X10_isSmall d rc rs 17 [none] [.int 0] h P) : SW sc m_X10_isSmall d rc rs 16 [none] [] h P := by
  refine sw_iconst (v := 0) dX10_isSmall_16 (by decide) ?_
  exact (k)
theorem b_X10_isSmall_17 {s0 : Int32} (hz1 : narrow .boolean (.int s0) = .int s0) (hP : P (.inl (some (.int s0))) h) : SW sc m_X10_isSmall d rc rs 17 [none] [.int s0] h P := by
  exact sw_ret (v := (some (.int s0))) dX10_isSmall_17 (rt_n hz1) hP
theorem b_X10_isDigit_0 {l0 : Int32} (kt : l0 < 48 → SW sc m_X10_isDigit d rc rs 16 [none] [] h P) (kf : ¬ (l0 < 48) → SW sc m_X10_isDigit d rc rs 6 [some (.int l0)] [] h P) : SW sc m_X10_isDigit d rc rs 0 [some (.int l0)] [] h P := by
  refine sw_iload_n dX10_isDigit_0 rfl ?_
  refine sw_bipush (v := 48) dX10_isDigit_1 (by decide) ?_
  exact sw_icmp_lt dX10_isDigit_3 (by decide) (fun q => (sw_fg [true] rfl (kt q))) (fun q => (kf q))
theorem b_X10_isDigit_6 {l0 : Int32} (kt : 57 < l0 → SW sc m_X10_isDigit d rc rs 16 [none] [] h P) (kf : ¬ (57 < l0) → SW sc m_X10_isDigit d rc rs 12 [none] [] h P) : SW sc m_X10_isDigit d rc rs 6 [some (.int l0)] [] h P := by
  refine sw_iload_n dX10_isDigit_6 rfl ?_
  refine sw_bipush (v := 57) dX10_isDigit_7 (by decide) ?_
  exact sw_icmp_gt dX10_isDigit_9 (by decide) (fun q => (sw_fg [true] rfl (kt q))) (fun q => (sw_fg [true] rfl (kf q)))
theorem b_X10_isDigit_12  (k : SW sc m_X10_isDigit d rc rs 17 [none] [.int 1] h P) : SW sc m_X10_isDigit d rc rs 12 [none] [] h P := by
  refine sw_iconst (v := 1) dX10_isDigit_12 (by decide) ?_
  exact sw_goto dX10_isDigit_13 (by decide) (k)
theorem b_X10_isDigit_16  (k : SW sc m_X10_isDigit d rc rs 17 [none] [.int 0] h P) : SW sc m_X10_isDigit d rc rs 16 [none] [] h P := by
  refine sw_iconst (v := 0) dX10_isDigit_16 (by decide) ?_
  exact (k)
end
