section
variable {sc : Option (List Int32)} {d rc rs : Nat} {h : ab_H} {P : ab_O → ab_H → Prop}
theorem b_X10_vertex_11 {r0 : Nat} {l1 : Int32} {l2 : Int32} {l3 : Int32} {q0 : Nat} (k : SW sc m_X10_vertex d rc rs 16 [some (.ref r0), some (.int l1), some (.int l2), some (.int l3)] [.int 1, .ref q0] h P) : SW sc m_X10_vertex d rc rs 11 [some (.ref r0), some (.int l1), some (.int l2), some (.int l3)] [.ref q0] h P := by
  refine sw_iconst (v := 1) dX10_vertex_11 (by decide) ?_
  exact sw_goto dX10_vertex_12 (by decide) (k)
theorem b_X10_vertex_15 {r0 : Nat} {l1 : Int32} {l2 : Int32} {l3 : Int32} {q0 : Nat} (k : SW sc m_X10_vertex d rc rs 16 [some (.ref r0), some (.int l1), some (.int l2), some (.int l3)] [.int 0, .ref q0] h P) : SW sc m_X10_vertex d rc rs 15 [some (.ref r0), some (.int l1), some (.int l2), some (.int l3)] [.ref q0] h P := by
  refine sw_iconst (v := 0) dX10_vertex_15 (by decide) ?_
  exact (k)
theorem b_X10_vertex_16 {r0 : Nat} {l1 : Int32} {l2 : Int32} {l3 : Int32} {q0 : Nat} {s1 : Int32} (kt : l3 = 0 → SW sc m_X10_vertex d rc rs 34 [some (.ref r0), some (.int l1), some (.int l2), none] [.int s1, .ref q0] h P) (kf : ¬ (l3 = 0) → SW sc m_X10_vertex d rc rs 20 [some (.ref r0), some (.int l1), some (.int l2), none] [.int s1, .ref q0] h P) : SW sc m_X10_vertex d rc rs 16 [some (.ref r0), some (.int l1), some (.int l2), some (.int l3)] [.int s1, .ref q0] h P := by
  refine sw_iload_n dX10_vertex_16 rfl ?_
  exact sw_if_eq dX10_vertex_17 (by decide) (fun q => (sw_fg [false, false, false, true] rfl (kt q))) (fun q => (sw_fg [false, false, false, true] rfl (kf q)))
theorem b_X10_vertex_20 {r0 : Nat} {l1 : Int32} {l2 : Int32} {q0 : Nat} {s1 : Int32} {v4 : Int32} {g4 : ab_H} (hm4 : MSE m_X10_isIn d [.int l2, .int 0, .int 7] h (some (.int v4)) g4) (kt : ¬ v4 = 0 → SW sc m_X10_vertex (d + 1) rc rs 34 [some (.ref r0), some (.int l1), some (.int l2), none] [.int s1, .ref q0] g4 P) (kf : v4 = 0 → SW sc m_X10_vertex (d + 1) rc rs 30 [some (.ref r0), some (.int l1), some (.int l2), none] [.int s1, .ref q0] g4 P) : SW sc m_X10_vertex (d + 1) rc rs 20 [some (.ref r0), some (.int l1), some (.int l2), none] [.int s1, .ref q0] h P := by
  refine sw_iload_n dX10_vertex_20 rfl ?_
  refine sw_iconst (v := 0) dX10_vertex_21 (by decide) ?_
  refine sw_bipush (v := 7) dX10_vertex_22 (by decide) ?_
  refine sw_cS (M := m_X10_vertex) dX10_vertex_24 ls_X10_153 hm4 rfl rfl (Nat.le_of_ble_eq_true rfl) (fun _ _ => rfl) rfl ?_
  show SW sc m_X10_vertex _ _ _ 27 [some (.ref r0), some (.int l1), some (.int l2), none] [.int v4, .int s1, .ref q0] g4 P
  exact sw_if_ne dX10_vertex_27 (by decide) (fun q => (kt q)) (fun q => (kf q))
theorem b_X10_vertex_30 {r0 : Nat} {l1 : Int32} {l2 : Int32} {q0 : Nat} {s1 : Int32} (k : SW sc m_X10_vertex d rc rs 35 [some (.ref r0), some (.int l1), some (.int l2), none] [.int 1, .int s1, .ref q0] h P) : SW sc m_X10_vertex d rc rs 30 [some (.ref r0), some (.int l1), some (.int l2), none] [.int s1, .ref q0] h P := by
  refine sw_iconst (v := 1) dX10_vertex_30 (by decide) ?_
  exact sw_goto dX10_vertex_31 (by decide) (k)
theorem b_X10_vertex_34 {r0 : Nat} {l1 : Int32} {l2 : Int32} {q0 : Nat} {s1 : Int32} (k : SW sc m_X10_vertex d rc rs 35 [some (.ref r0), some (.int l1), some (.int l2), none] [.int 0, .int s1, .ref q0] h P) : SW sc m_X10_vertex d rc rs 34 [some (.ref r0), some (.int l1), some (.int l2), none] [.int s1, .ref q0] h P := by
  refine sw_iconst (v := 0) dX10_vertex_34 (by decide) ?_
  exact (k)
theorem b_X10_vertex_35 {r0 : Nat} {l1 : Int32} {l2 : Int32} {q0 : Nat} {s1 : Int32} {s2 : Int32} {v1 : Int32} {g1 : ab_H} {fs1 : List Value} (hr1 : (h)[q0]? = some (10, fs1)) (hm1 : MSE m_X10_fails d [.ref q0, .int s1, .int s2] h (some (.int v1)) g1) (kt : v1 = 0 → SW sc m_X10_vertex (d + 1) rc rs 43 [some (.ref r0), some (.int l1), some (.int l2), none] [] g1 P) (kf : ¬ (v1 = 0) → SW sc m_X10_vertex (d + 1) rc rs 41 [none, none, none, none] [] g1 P) : SW sc m_X10_vertex (d + 1) rc rs 35 [some (.ref r0), some (.int l1), some (.int l2), none] [.int s2, .int s1, .ref q0] h P := by
  refine sw_cV (M := m_X10_vertex) dX10_vertex_35 lv_X10_286 hm1 hr1 rfl (by decide) rfl rfl rfl (Nat.le_of_ble_eq_true rfl) (fun _ _ => rfl) rfl ?_
  show SW sc m_X10_vertex _ _ _ 38 [some (.ref r0), some (.int l1), some (.int l2), none] [.int v1] g1 P
  exact sw_if_eq dX10_vertex_38 (by decide) (fun q => (kt q)) (fun q => (sw_fg [true, true, true, false] rfl (kf q)))
theorem b_X10_vertex_41  (hP : P (.inl (some (.int 0))) h) : SW sc m_X10_vertex d rc rs 41 [none, none, none, none] [] h P := by
  refine sw_iconst (v := 0) dX10_vertex_41 (by decide) ?_
  exact sw_ret (v := (some (.int 0))) dX10_vertex_42 rt_i hP
theorem b_X10_vertex_43 {r0 : Nat} {l1 : Int32} {l2 : Int32} (k0 : l2 = 0 → SW sc m_X10_vertex d rc rs 88 [some (.ref r0), some (.int l1), none, none] [] h P) (k1 : l2 = 1 → SW sc m_X10_vertex d rc rs 98 [some (.ref r0), some (.int l1), none, none] [] h P) (k2 : l2 = 2 → SW sc m_X10_vertex d rc rs 108 [some (.ref r0), some (.int l1), none, none] [] h P) (k3 : l2 = 3 → SW sc m_X10_vertex d rc rs 114 [some (.ref r0), some (.int l1), none, none] [] h P) (k4 : l2 = 4 → SW sc m_X10_vertex d rc rs 123 [some (.ref r0), some (.int l1), none, none] [] h P) (k5 : l2 = 5 → SW sc m_X10_vertex d rc rs 129 [some (.ref r0), some (.int l1), none, none] [] h P) (k6 : l2 = 6 → SW sc m_X10_vertex d rc rs 135 [some (.ref r0), some (.int l1), none, none] [] h P) (kd : (∀ i : Nat, i < 7 → ¬ l2 = Int32.ofNat i) → SW sc m_X10_vertex d rc rs 142 [some (.ref r0), some (.int l1), none, none] [] h P) : SW sc m_X10_vertex d rc rs 43 [some (.ref r0), some (.int l1), some (.int l2), none] [] h P := by
  refine sw_iload_n dX10_vertex_43 rfl ?_
  by_cases ho : (l2).toInt < 0 ∨ 6 < (l2).toInt
  · exact sw_tableOut (M := m_X10_vertex) dX10_vertex_44 ho (by decide) (sw_fg [false, false, true, false] rfl (kd (ab_swOut (n := 7) (by decide) ho)))
  · obtain ⟨i, hi, hx⟩ := ab_swIn (n := 7) (by decide) ho
    by_cases h0 : i = 0
    · subst h0
      exact sw_tableIn (M := m_X10_vertex) (off := 44) dX10_vertex_44 (by rw [hx]; decide) (by rw [hx]; decide) (by rw [hx]; decide) (by decide) (sw_fg [false, false, true, false] rfl (k0 (by rw [hx]; decide)))
    by_cases h1 : i = 1
    · subst h1
      exact sw_tableIn (M := m_X10_vertex) (off := 54) dX10_vertex_44 (by rw [hx]; decide) (by rw [hx]; decide) (by rw [hx]; decide) (by decide) (sw_fg [false, false, true, false] rfl (k1 (by rw [hx]; decide)))
    by_cases h2 : i = 2
    · subst h2
      exact sw_tableIn (M := m_X10_vertex) (off := 64) dX10_vertex_44 (by rw [hx]; decide) (by rw [hx]; decide) (by rw [hx]; decide) (by decide) (sw_fg [false, false, true, false] rfl (k2 (by rw [hx]; decide)))
    by_cases h3 : i = 3
    · subst h3
      exact sw_tableIn (M := m_X10_vertex) (off := 70) dX10_vertex_44 (by rw [hx]; decide) (by rw [hx]; decide) (by rw [hx]; decide) (by decide) (sw_fg [false, false, true, false] rfl (k3 (by rw [hx]; decide)))
    by_cases h4 : i = 4
    · subst h4
      exact sw_tableIn (M := m_X10_vertex) (off := 79) dX10_vertex_44 (by rw [hx]; decide) (by rw [hx]; decide) (by rw [hx]; decide) (by decide) (sw_fg [false, false, true, false] rfl (k4 (by rw [hx]; decide)))
    by_cases h5 : i = 5
    · subst h5
      exact sw_tableIn (M := m_X10_vertex) (off := 85) dX10_vertex_44 (by rw [hx]; decide) (by rw [hx]; decide) (by rw [hx]; decide) (by decide) (sw_fg [false, false, true, false] rfl (k5 (by rw [hx]; decide)))
    by_cases h6 : i = 6
    · subst h6
      exact sw_tableIn (M := m_X10_vertex) (off := 91) dX10_vertex_44 (by rw [hx]; decide) (by rw [hx]; decide) (by rw [hx]; decide) (by decide) (sw_fg [false, false, true, false] rfl (k6 (by rw [hx]; decide)))
    exact absurd hi (by omega)
theorem b_X10_vertex_88 {r0 : Nat} {l1 : Int32} {fs2 : List Value} {a2 : Nat} {vs4 : List Value} {x4 : Int32} {v5 : Int32} {g5 : ab_H} (hc2 : (h)[r0]? = some (10, fs2)) (hv2 : fs2[1]? = some (.ref a2)) (hc4 : (h)[a2]? = some (100, vs4)) (ho4 : ¬ l1 < 0) (hi4 : vs4[l1.toNatClampNeg]? = some (.int x4)) (hm5 : MSE m_X10_ones d [.int x4] h (some (.int v5)) g5) (hP : P (.inl (some (.int v5))) g5) : SW sc m_X10_vertex (d + 1) rc rs 88 [some (.ref r0), some (.int l1), none, none] [] h P := by
  refine sw_aload_n dX10_vertex_88 rfl ?_
  refine sw_getf dX10_vertex_89 lf_X10_19 hc2 hv2 ?_
  refine sw_iload_n dX10_vertex_92 rfl ?_
  refine sw_iald dX10_vertex_93 hc4 ho4 hi4 ?_
  refine sw_cS (M := m_X10_vertex) dX10_vertex_94 ls_X10_111 hm5 rfl rfl (Nat.le_of_ble_eq_true rfl) (fun _ _ => rfl) rfl ?_
  show SW sc m_X10_vertex _ _ _ 97 [some (.ref r0), some (.int l1), none, none] [.int v5] g5 P
  exact sw_ret (v := (some (.int v5))) dX10_vertex_97 rt_i hP
theorem b_X10_vertex_98 {r0 : Nat} {l1 : Int32} {fs2 : List Value} {a2 : Nat} {vs6 : List Value} {x6 : Int32} (hc2 : (h)[r0]? = some (10, fs2)) (hv2 : fs2[1]? = some (.ref a2)) (hc6 : (h)[a2]? = some (100, vs6)) (ho6 : ¬ (10 + l1) < 0) (hi6 : vs6[(10 + l1).toNatClampNeg]? = some (.int x6)) (hP : P (.inl (some (.int x6))) h) : SW sc m_X10_vertex d rc rs 98 [some (.ref r0), some (.int l1), none, none] [] h P := by
  refine sw_aload_n dX10_vertex_98 rfl ?_
  refine sw_getf dX10_vertex_99 lf_X10_19 hc2 hv2 ?_
  refine sw_bipush (v := 10) dX10_vertex_102 (by decide) ?_
  refine sw_iload_n dX10_vertex_104 rfl ?_
  refine sw_iadd dX10_vertex_105 ?_
  refine sw_iald dX10_vertex_106 hc6 ho6 hi6 ?_
  exact sw_ret (v := (some (.int x6))) dX10_vertex_107 rt_i hP
theorem b_X10_vertex_108 {r0 : Nat} {l1 : Int32} {v3 : Int32} {g3 : ab_H} {fs3 : List Value} (hr3 : (h)[r0]? = some (10, fs3)) (hm3 : MSE m_X10_numberOf d [.ref r0, .int l1] h (some (.int v3)) g3) (hP : P (.inl (some (.int v3))) g3) : SW sc m_X10_vertex (d + 1) rc rs 108 [some (.ref r0), some (.int l1), none, none] [] h P := by
  refine sw_aload_n dX10_vertex_108 rfl ?_
  refine sw_iload_n dX10_vertex_109 rfl ?_
  refine sw_cV (M := m_X10_vertex) dX10_vertex_110 lv_X10_289 hm3 hr3 rfl (by decide) rfl rfl rfl (Nat.le_of_ble_eq_true rfl) (fun _ _ => rfl) rfl ?_
  show SW sc m_X10_vertex _ _ _ 113 [some (.ref r0), some (.int l1), none, none] [.int v3] g3 P
  exact sw_ret (v := (some (.int v3))) dX10_vertex_113 rt_i hP
theorem b_X10_vertex_114 {r0 : Nat} {l1 : Int32} {v3 : Int32} {g3 : ab_H} {fs3 : List Value} {v4 : Int32} {g4 : ab_H} (hr3 : (h)[r0]? = some (10, fs3)) (hm3 : MSE m_X10_component d [.ref r0, .int l1] h (some (.int v3)) g3) (hm4 : MSE m_X10_ones d [.int v3] g3 (some (.int v4)) g4) (hP : P (.inl (some (.int v4))) g4) : SW sc m_X10_vertex (d + 1) rc rs 114 [some (.ref r0), some (.int l1), none, none] [] h P := by
  refine sw_aload_n dX10_vertex_114 rfl ?_
  refine sw_iload_n dX10_vertex_115 rfl ?_
  refine sw_cV (M := m_X10_vertex) dX10_vertex_116 lv_X10_84 hm3 hr3 rfl (by decide) rfl rfl rfl (Nat.le_of_ble_eq_true rfl) (fun _ _ => rfl) rfl ?_
  show SW sc m_X10_vertex _ _ _ 119 [some (.ref r0), some (.int l1), none, none] [.int v3] g3 P
  refine sw_cS (M := m_X10_vertex) dX10_vertex_119 ls_X10_111 hm4 rfl rfl (Nat.le_of_ble_eq_true rfl) (fun _ _ => rfl) rfl ?_
  show SW sc m_X10_vertex _ _ _ 122 [some (.ref r0), some (.int l1), none, none] [.int v4] g4 P
  exact sw_ret (v := (some (.int v4))) dX10_vertex_122 rt_i hP
theorem b_X10_vertex_123 {r0 : Nat} {l1 : Int32} {v3 : Int32} {g3 : ab_H} {fs3 : List Value} (hr3 : (h)[r0]? = some (10, fs3)) (hm3 : MSE m_X10_eccentricity d [.ref r0, .int l1] h (some (.int v3)) g3) (hP : P (.inl (some (.int v3))) g3) : SW sc m_X10_vertex (d + 1) rc rs 123 [some (.ref r0), some (.int l1), none, none] [] h P := by
  refine sw_aload_n dX10_vertex_123 rfl ?_
  refine sw_iload_n dX10_vertex_124 rfl ?_
  refine sw_cV (M := m_X10_vertex) dX10_vertex_125 lv_X10_102 hm3 hr3 rfl (by decide) rfl rfl rfl (Nat.le_of_ble_eq_true rfl) (fun _ _ => rfl) rfl ?_
  show SW sc m_X10_vertex _ _ _ 128 [some (.ref r0), some (.int l1), none, none] [.int v3] g3 P
  exact sw_ret (v := (some (.int v3))) dX10_vertex_128 rt_i hP
theorem b_X10_vertex_129 {r0 : Nat} {l1 : Int32} {v3 : Int32} {g3 : ab_H} {fs3 : List Value} (hr3 : (h)[r0]? = some (10, fs3)) (hm3 : MSE m_X10_round d [.ref r0, .int l1] h (some (.int v3)) g3) (hP : P (.inl (some (.int v3))) g3) : SW sc m_X10_vertex (d + 1) rc rs 129 [some (.ref r0), some (.int l1), none, none] [] h P := by
  refine sw_aload_n dX10_vertex_129 rfl ?_
  refine sw_iload_n dX10_vertex_130 rfl ?_
  refine sw_cV (M := m_X10_vertex) dX10_vertex_131 lv_X10_292 hm3 hr3 rfl (by decide) rfl rfl rfl (Nat.le_of_ble_eq_true rfl) (fun _ _ => rfl) rfl ?_
  show SW sc m_X10_vertex _ _ _ 134 [some (.ref r0), some (.int l1), none, none] [.int v3] g3 P
  exact sw_ret (v := (some (.int v3))) dX10_vertex_134 rt_i hP
theorem b_X10_vertex_135 {r0 : Nat} {l1 : Int32} {fs2 : List Value} {a2 : Nat} {vs4 : List Value} {x4 : Int32} (hc2 : (h)[r0]? = some (10, fs2)) (hv2 : fs2[1]? = some (.ref a2)) (hc4 : (h)[a2]? = some (100, vs4)) (ho4 : ¬ l1 < 0) (hi4 : vs4[l1.toNatClampNeg]? = some (.int x4)) (hP : P (.inl (some (.int x4))) h) : SW sc m_X10_vertex d rc rs 135 [some (.ref r0), some (.int l1), none, none] [] h P := by
  refine sw_aload_n dX10_vertex_135 rfl ?_
  refine sw_getf dX10_vertex_136 lf_X10_19 hc2 hv2 ?_
  refine sw_iload_n dX10_vertex_139 rfl ?_
  refine sw_iald dX10_vertex_140 hc4 ho4 hi4 ?_
  exact sw_ret (v := (some (.int x4))) dX10_vertex_141 rt_i hP
theorem b_X10_vertex_142 {r0 : Nat} {l1 : Int32} {v3 : Int32} {g3 : ab_H} {fs3 : List Value} (hr3 : (h)[r0]? = some (10, fs3)) (hm3 : MSE m_X10_orbit d [.ref r0, .int l1] h (some (.int v3)) g3) (hP : P (.inl (some (.int v3))) g3) : SW sc m_X10_vertex (d + 1) rc rs 142 [some (.ref r0), some (.int l1), none, none] [] h P := by
  refine sw_aload_n dX10_vertex_142 rfl ?_
  refine sw_iload_n dX10_vertex_143 rfl ?_
  refine sw_cV (M := m_X10_vertex) dX10_vertex_144 lv_X10_130 hm3 hr3 rfl (by decide) rfl rfl rfl (Nat.le_of_ble_eq_true rfl) (fun _ _ => rfl) rfl ?_
  show SW sc m_X10_vertex _ _ _ 147 [some (.ref r0), some (.int l1), none, none] [.int v3] g3 P
  exact sw_ret (v := (some (.int v3))) dX10_vertex_147 rt_i hP
theorem b_X10_isComponent_0 {r0 : Nat} {l1 : Int32} {v4 : Int32} {g4 : ab_H} {fs4 : List Value} {v7 : Int32} {g7 : ab_H} (hr4 : (h)[r0]? = some (10, fs4)) (hm4 : MSE m_X10_componentMany d [.ref r0] h (some (.int v4)) g4) (hm7 : MSE m_X10_isIn d [.int l1, .int 0, .int (v4 - 1)] g4 (some (.int v7)) g7) (hz8 : narrow .boolean (.int v7) = .int v7) (hP : P (.inl (some (.int v7))) g7) : SW sc m_X10_isComponent (d + 1) rc rs 0 [some (.ref r0), some (.int l1)] [] h P := by
  refine sw_iload_n dX10_isComponent_0 rfl ?_
  refine sw_iconst (v := 0) dX10_isComponent_1 (by decide) ?_
  refine sw_aload_n dX10_isComponent_2 rfl ?_
  refine sw_cV (M := m_X10_isComponent) dX10_isComponent_3 lv_X10_268 hm4 hr4 rfl (by decide) rfl rfl rfl (Nat.le_of_ble_eq_true rfl) (fun _ _ => rfl) rfl ?_
  show SW sc m_X10_isComponent _ _ _ 6 [some (.ref r0), some (.int l1)] [.int v4, .int 0, .int l1] g4 P
  refine sw_iconst (v := 1) dX10_isComponent_6 (by decide) ?_
  refine sw_isub dX10_isComponent_7 ?_
  refine sw_cS (M := m_X10_isComponent) dX10_isComponent_8 ls_X10_153 hm7 rfl rfl (Nat.le_of_ble_eq_true rfl) (fun _ _ => rfl) rfl ?_
  show SW sc m_X10_isComponent _ _ _ 11 [some (.ref r0), some (.int l1)] [.int v7] g7 P
  exact sw_ret (v := (some (.int v7))) dX10_isComponent_11 (rt_n hz8) hP
theorem b_X10_component__0 {r0 : Nat} {l1 : Int32} {l2 : Int32} {v3 : Int32} {g3 : ab_H} {fs3 : List Value} (hr3 : (h)[r0]? = some (10, fs3)) (hm3 : MSE m_X10_isComponent d [.ref r0, .int l1] h (some (.int v3)) g3) (kt : ¬ v3 = 0 → SW sc m_X10_component_ (d + 1) rc rs 15 [some (.ref r0), some (.int l1), some (.int l2), some (.int v3), none] [.ref r0] g3 P) (kf : v3 = 0 → SW sc m_X10_component_ (d + 1) rc rs 11 [some (.ref r0), some (.int l1), some (.int l2), some (.int v3), none] [.ref r0] g3 P) : SW sc m_X10_component_ (d + 1) rc rs 0 [some (.ref r0), some (.int l1), some (.int l2), none, none] [] h P := by
  refine sw_aload_n dX10_component__0 rfl ?_
  refine sw_iload_n dX10_component__1 rfl ?_
  refine sw_cV (M := m_X10_component_) dX10_component__2 lv_X10_295 hm3 hr3 rfl (by decide) rfl rfl rfl (Nat.le_of_ble_eq_true rfl) (fun _ _ => rfl) rfl ?_
  show SW sc m_X10_component_ _ _ _ 5 [some (.ref r0), some (.int l1), some (.int l2), none, none] [.int v3] g3 P
  refine sw_istore_n dX10_component__5 (by decide) rfl ?_
  show SW sc m_X10_component_ _ _ _ 6 [some (.ref r0), some (.int l1), some (.int l2), some (.int v3), none] [] g3 P
  refine sw_aload_n dX10_component__6 rfl ?_
  refine sw_iload_n dX10_component__7 rfl ?_
  exact sw_if_ne dX10_component__8 (by decide) (fun q => (kt q)) (fun q => (kf q))
theorem b_X10_component__11 {r0 : Nat} {l1 : Int32} {l2 : Int32} {l3 : Int32} {q0 : Nat} (k : SW sc m_X10_component_ d rc rs 16 [some (.ref r0), some (.int l1), some (.int l2), some (.int l3), none] [.int 1, .ref q0] h P) : SW sc m_X10_component_ d rc rs 11 [some (.ref r0), some (.int l1), some (.int l2), some (.int l3), none] [.ref q0] h P := by
  refine sw_iconst (v := 1) dX10_component__11 (by decide) ?_
  exact sw_goto dX10_component__12 (by decide) (k)
theorem b_X10_component__15 {r0 : Nat} {l1 : Int32} {l2 : Int32} {l3 : Int32} {q0 : Nat} (k : SW sc m_X10_component_ d rc rs 16 [some (.ref r0), some (.int l1), some (.int l2), some (.int l3), none] [.int 0, .ref q0] h P) : SW sc m_X10_component_ d rc rs 15 [some (.ref r0), some (.int l1), some (.int l2), some (.int l3), none] [.ref q0] h P := by
  refine sw_iconst (v := 0) dX10_component__15 (by decide) ?_
  exact (k)
theorem b_X10_component__16 {r0 : Nat} {l1 : Int32} {l2 : Int32} {l3 : Int32} {q0 : Nat} {s1 : Int32} (kt : l3 = 0 → SW sc m_X10_component_ d rc rs 34 [some (.ref r0), some (.int l1), some (.int l2), none, none] [.int s1, .ref q0] h P) (kf : ¬ (l3 = 0) → SW sc m_X10_component_ d rc rs 20 [some (.ref r0), some (.int l1), some (.int l2), none, none] [.int s1, .ref q0] h P) : SW sc m_X10_component_ d rc rs 16 [some (.ref r0), some (.int l1), some (.int l2), some (.int l3), none] [.int s1, .ref q0] h P := by
  refine sw_iload_n dX10_component__16 rfl ?_
  exact sw_if_eq dX10_component__17 (by decide) (fun q => (sw_fg [false, false, false, true, false] rfl (kt q))) (fun q => (sw_fg [false, false, false, true, false] rfl (kf q)))
theorem b_X10_component__20 {r0 : Nat} {l1 : Int32} {l2 : Int32} {q0 : Nat} {s1 : Int32} {v4 : Int32} {g4 : ab_H} (hm4 : MSE m_X10_isIn d [.int l2, .int 0, .int 6] h (some (.int v4)) g4) (kt : ¬ v4 = 0 → SW sc m_X10_component_ (d + 1) rc rs 34 [some (.ref r0), some (.int l1), some (.int l2), none, none] [.int s1, .ref q0] g4 P) (kf : v4 = 0 → SW sc m_X10_component_ (d + 1) rc rs 30 [some (.ref r0), some (.int l1), some (.int l2), none, none] [.int s1, .ref q0] g4 P) : SW sc m_X10_component_ (d + 1) rc rs 20 [some (.ref r0), some (.int l1), some (.int l2), none, none] [.int s1, .ref q0] h P := by
  refine sw_iload_n dX10_component__20 rfl ?_
  refine sw_iconst (v := 0) dX10_component__21 (by decide) ?_
  refine sw_bipush (v := 6) dX10_component__22 (by decide) ?_
  refine sw_cS (M := m_X10_component_) dX10_component__24 ls_X10_153 hm4 rfl rfl (Nat.le_of_ble_eq_true rfl) (fun _ _ => rfl) rfl ?_
  show SW sc m_X10_component_ _ _ _ 27 [some (.ref r0), some (.int l1), some (.int l2), none, none] [.int v4, .int s1, .ref q0] g4 P
  exact sw_if_ne dX10_component__27 (by decide) (fun q => (kt q)) (fun q => (kf q))
theorem b_X10_component__30 {r0 : Nat} {l1 : Int32} {l2 : Int32} {q0 : Nat} {s1 : Int32} (k : SW sc m_X10_component_ d rc rs 35 [some (.ref r0), some (.int l1), some (.int l2), none, none] [.int 1, .int s1, .ref q0] h P) : SW sc m_X10_component_ d rc rs 30 [some (.ref r0), some (.int l1), some (.int l2), none, none] [.int s1, .ref q0] h P := by
  refine sw_iconst (v := 1) dX10_component__30 (by decide) ?_
  exact sw_goto dX10_component__31 (by decide) (k)
theorem b_X10_component__34 {r0 : Nat} {l1 : Int32} {l2 : Int32} {q0 : Nat} {s1 : Int32} (k : SW sc m_X10_component_ d rc rs 35 [some (.ref r0), some (.int l1), some (.int l2), none, none] [.int 0, .int s1, .ref q0] h P) : SW sc m_X10_component_ d rc rs 34 [some (.ref r0), some (.int l1), some (.int l2), none, none] [.int s1, .ref q0] h P := by
  refine sw_iconst (v := 0) dX10_component__34 (by decide) ?_
  exact (k)
theorem b_X10_component__35 {r0 : Nat} {l1 : Int32} {l2 : Int32} {q0 : Nat} {s1 : Int32} {s2 : Int32} {v1 : Int32} {g1 : ab_H} {fs1 : List Value} (hr1 : (h)[q0]? = some (10, fs1)) (hm1 : MSE m_X10_fails d [.ref q0, .int s1, .int s2] h (some (.int v1)) g1) (kt : v1 = 0 → SW sc m_X10_component_ (d + 1) rc rs 43 [some (.ref r0), some (.int l1), some (.int l2), none, none] [] g1 P) (kf : ¬ (v1 = 0) → SW sc m_X10_component_ (d + 1) rc rs 41 [none, none, none, none, none] [] g1 P) : SW sc m_X10_component_ (d + 1) rc rs 35 [some (.ref r0), some (.int l1), some (.int l2), none, none] [.int s2, .int s1, .ref q0] h P := by
  refine sw_cV (M := m_X10_component_) dX10_component__35 lv_X10_286 hm1 hr1 rfl (by decide) rfl rfl rfl (Nat.le_of_ble_eq_true rfl) (fun _ _ => rfl) rfl ?_
  show SW sc m_X10_component_ _ _ _ 38 [some (.ref r0), some (.int l1), some (.int l2), none, none] [.int v1] g1 P
  exact sw_if_eq dX10_component__38 (by decide) (fun q => (kt q)) (fun q => (sw_fg [true, true, true, false, false] rfl (kf q)))
theorem b_X10_component__41  (hP : P (.inl (some (.int 0))) h) : SW sc m_X10_component_ d rc rs 41 [none, none, none, none, none] [] h P := by
  refine sw_iconst (v := 0) dX10_component__41 (by decide) ?_
  exact sw_ret (v := (some (.int 0))) dX10_component__42 rt_i hP
theorem b_X10_component__43 {r0 : Nat} {l1 : Int32} {l2 : Int32} {v3 : Int32} {g3 : ab_H} {fs3 : List Value} (hr3 : (h)[r0]? = some (10, fs3)) (hm3 : MSE m_X10_componentAt d [.ref r0, .int l1] h (some (.int v3)) g3) (k0 : l2 = 0 → SW sc m_X10_component_ (d + 1) rc rs 88 [none, none, none, none, some (.int v3)] [] g3 P) (k1 : l2 = 1 → SW sc m_X10_component_ (d + 1) rc rs 91 [some (.ref r0), none, none, none, some (.int v3)] [] g3 P) (k2 : l2 = 2 → SW sc m_X10_component_ (d + 1) rc rs 98 [some (.ref r0), none, none, none, some (.int v3)] [] g3 P) (k3 : l2 = 3 → SW sc m_X10_component_ (d + 1) rc rs 106 [some (.ref r0), none, none, none, some (.int v3)] [] g3 P) (k4 : l2 = 4 → SW sc m_X10_component_ (d + 1) rc rs 114 [some (.ref r0), none, none, none, some (.int v3)] [] g3 P) (k5 : l2 = 5 → SW sc m_X10_component_ (d + 1) rc rs 122 [some (.ref r0), some (.int l1), none, none, none] [] g3 P) (kd : (∀ i : Nat, i < 6 → ¬ l2 = Int32.ofNat i) → SW sc m_X10_component_ (d + 1) rc rs 128 [some (.ref r0), none, none, none, some (.int v3)] [] g3 P) : SW sc m_X10_component_ (d + 1) rc rs 43 [some (.ref r0), some (.int l1), some (.int l2), none, none] [] h P := by
  refine sw_aload_n dX10_component__43 rfl ?_
  refine sw_iload_n dX10_component__44 rfl ?_
  refine sw_cV (M := m_X10_component_) dX10_component__45 lv_X10_133 hm3 hr3 rfl (by decide) rfl rfl rfl (Nat.le_of_ble_eq_true rfl) (fun _ _ => rfl) rfl ?_
  show SW sc m_X10_component_ _ _ _ 48 [some (.ref r0), some (.int l1), some (.int l2), none, none] [.int v3] g3 P
  refine sw_istore dX10_component__48 (by decide) rfl ?_
  show SW sc m_X10_component_ _ _ _ 50 [some (.ref r0), some (.int l1), some (.int l2), none, some (.int v3)] [] g3 P
  refine sw_iload_n dX10_component__50 rfl ?_
  by_cases ho : (l2).toInt < 0 ∨ 5 < (l2).toInt
  · exact sw_tableOut (M := m_X10_component_) dX10_component__51 ho (by decide) (sw_fg [false, true, true, false, false] rfl (kd (ab_swOut (n := 6) (by decide) ho)))
  · obtain ⟨i, hi, hx⟩ := ab_swIn (n := 6) (by decide) ho
    by_cases h0 : i = 0
    · subst h0
      exact sw_tableIn (M := m_X10_component_) (off := 37) dX10_component__51 (by rw [hx]; decide) (by rw [hx]; decide) (by rw [hx]; decide) (by decide) (sw_fg [true, true, true, false, false] rfl (k0 (by rw [hx]; decide)))
    by_cases h1 : i = 1
    · subst h1
      exact sw_tableIn (M := m_X10_component_) (off := 40) dX10_component__51 (by rw [hx]; decide) (by rw [hx]; decide) (by rw [hx]; decide) (by decide) (sw_fg [false, true, true, false, false] rfl (k1 (by rw [hx]; decide)))
    by_cases h2 : i = 2
    · subst h2
      exact sw_tableIn (M := m_X10_component_) (off := 47) dX10_component__51 (by rw [hx]; decide) (by rw [hx]; decide) (by rw [hx]; decide) (by decide) (sw_fg [false, true, true, false, false] rfl (k2 (by rw [hx]; decide)))
    by_cases h3 : i = 3
    · subst h3
      exact sw_tableIn (M := m_X10_component_) (off := 55) dX10_component__51 (by rw [hx]; decide) (by rw [hx]; decide) (by rw [hx]; decide) (by decide) (sw_fg [false, true, true, false, false] rfl (k3 (by rw [hx]; decide)))
    by_cases h4 : i = 4
    · subst h4
      exact sw_tableIn (M := m_X10_component_) (off := 63) dX10_component__51 (by rw [hx]; decide) (by rw [hx]; decide) (by rw [hx]; decide) (by decide) (sw_fg [false, true, true, false, false] rfl (k4 (by rw [hx]; decide)))
    by_cases h5 : i = 5
    · subst h5
      exact sw_tableIn (M := m_X10_component_) (off := 71) dX10_component__51 (by rw [hx]; decide) (by rw [hx]; decide) (by rw [hx]; decide) (by decide) (sw_fg [false, false, true, false, true] rfl (k5 (by rw [hx]; decide)))
    exact absurd hi (by omega)
theorem b_X10_component__88 {l4 : Int32} (hP : P (.inl (some (.int l4))) h) : SW sc m_X10_component_ d rc rs 88 [none, none, none, none, some (.int l4)] [] h P := by
  refine sw_iload dX10_component__88 rfl ?_
  exact sw_ret (v := (some (.int l4))) dX10_component__90 rt_i hP
theorem b_X10_component__91 {r0 : Nat} {l4 : Int32} {v3 : Int32} {g3 : ab_H} {fs3 : List Value} (hr3 : (h)[r0]? = some (10, fs3)) (hm3 : MSE m_X10_diameter d [.ref r0, .int l4] h (some (.int v3)) g3) (hP : P (.inl (some (.int v3))) g3) : SW sc m_X10_component_ (d + 1) rc rs 91 [some (.ref r0), none, none, none, some (.int l4)] [] h P := by
  refine sw_aload_n dX10_component__91 rfl ?_
  refine sw_iload dX10_component__92 rfl ?_
  refine sw_cV (M := m_X10_component_) dX10_component__94 lv_X10_298 hm3 hr3 rfl (by decide) rfl rfl rfl (Nat.le_of_ble_eq_true rfl) (fun _ _ => rfl) rfl ?_
  show SW sc m_X10_component_ _ _ _ 97 [some (.ref r0), none, none, none, some (.int l4)] [.int v3] g3 P
  exact sw_ret (v := (some (.int v3))) dX10_component__97 rt_i hP
theorem b_X10_component__98 {r0 : Nat} {l4 : Int32} {v4 : Int32} {g4 : ab_H} {fs4 : List Value} (hr4 : (h)[r0]? = some (10, fs4)) (hm4 : MSE m_X10_leastOf d [.ref r0, .int l4, .int 0] h (some (.int v4)) g4) (hP : P (.inl (some (.int v4))) g4) : SW sc m_X10_component_ (d + 1) rc rs 98 [some (.ref r0), none, none, none, some (.int l4)] [] h P := by
  refine sw_aload_n dX10_component__98 rfl ?_
  refine sw_iload dX10_component__99 rfl ?_
  refine sw_iconst (v := 0) dX10_component__101 (by decide) ?_
  refine sw_cV (M := m_X10_component_) dX10_component__102 lv_X10_121 hm4 hr4 rfl (by decide) rfl rfl rfl (Nat.le_of_ble_eq_true rfl) (fun _ _ => rfl) rfl ?_
  show SW sc m_X10_component_ _ _ _ 105 [some (.ref r0), none, none, none, some (.int l4)] [.int v4] g4 P
  exact sw_ret (v := (some (.int v4))) dX10_component__105 rt_i hP
theorem b_X10_component__106 {r0 : Nat} {l4 : Int32} {v4 : Int32} {g4 : ab_H} {fs4 : List Value} (hr4 : (h)[r0]? = some (10, fs4)) (hm4 : MSE m_X10_leastOf d [.ref r0, .int l4, .int 1] h (some (.int v4)) g4) (hP : P (.inl (some (.int v4))) g4) : SW sc m_X10_component_ (d + 1) rc rs 106 [some (.ref r0), none, none, none, some (.int l4)] [] h P := by
  refine sw_aload_n dX10_component__106 rfl ?_
  refine sw_iload dX10_component__107 rfl ?_
  refine sw_iconst (v := 1) dX10_component__109 (by decide) ?_
  refine sw_cV (M := m_X10_component_) dX10_component__110 lv_X10_121 hm4 hr4 rfl (by decide) rfl rfl rfl (Nat.le_of_ble_eq_true rfl) (fun _ _ => rfl) rfl ?_
  show SW sc m_X10_component_ _ _ _ 113 [some (.ref r0), none, none, none, some (.int l4)] [.int v4] g4 P
  exact sw_ret (v := (some (.int v4))) dX10_component__113 rt_i hP
theorem b_X10_component__114 {r0 : Nat} {l4 : Int32} {v4 : Int32} {g4 : ab_H} {fs4 : List Value} (hr4 : (h)[r0]? = some (10, fs4)) (hm4 : MSE m_X10_leastOf d [.ref r0, .int l4, .int 2] h (some (.int v4)) g4) (hP : P (.inl (some (.int v4))) g4) : SW sc m_X10_component_ (d + 1) rc rs 114 [some (.ref r0), none, none, none, some (.int l4)] [] h P := by
  refine sw_aload_n dX10_component__114 rfl ?_
  refine sw_iload dX10_component__115 rfl ?_
  refine sw_iconst (v := 2) dX10_component__117 (by decide) ?_
  refine sw_cV (M := m_X10_component_) dX10_component__118 lv_X10_121 hm4 hr4 rfl (by decide) rfl rfl rfl (Nat.le_of_ble_eq_true rfl) (fun _ _ => rfl) rfl ?_
  show SW sc m_X10_component_ _ _ _ 121 [some (.ref r0), none, none, none, some (.int l4)] [.int v4] g4 P
  exact sw_ret (v := (some (.int v4))) dX10_component__121 rt_i hP
theorem b_X10_component__122 {r0 : Nat} {l1 : Int32} {v3 : Int32} {g3 : ab_H} {fs3 : List Value} (hr3 : (h)[r0]? = some (10, fs3)) (hm3 : MSE m_X10_classAt d [.ref r0, .int l1] h (some (.int v3)) g3) (hP : P (.inl (some (.int v3))) g3) : SW sc m_X10_component_ (d + 1) rc rs 122 [some (.ref r0), some (.int l1), none, none, none] [] h P := by
  refine sw_aload_n dX10_component__122 rfl ?_
  refine sw_iload_n dX10_component__123 rfl ?_
  refine sw_cV (M := m_X10_component_) dX10_component__124 lv_X10_139 hm3 hr3 rfl (by decide) rfl rfl rfl (Nat.le_of_ble_eq_true rfl) (fun _ _ => rfl) rfl ?_
  show SW sc m_X10_component_ _ _ _ 127 [some (.ref r0), some (.int l1), none, none, none] [.int v3] g3 P
  exact sw_ret (v := (some (.int v3))) dX10_component__127 rt_i hP
theorem b_X10_component__128 {r0 : Nat} {l4 : Int32} {v3 : Int32} {g3 : ab_H} {fs3 : List Value} (hr3 : (h)[r0]? = some (10, fs3)) (hm3 : MSE m_X10_leavesIn d [.ref r0, .int l4] h (some (.int v3)) g3) (hP : P (.inl (some (.int v3))) g3) : SW sc m_X10_component_ (d + 1) rc rs 128 [some (.ref r0), none, none, none, some (.int l4)] [] h P := by
  refine sw_aload_n dX10_component__128 rfl ?_
  refine sw_iload dX10_component__129 rfl ?_
  refine sw_cV (M := m_X10_component_) dX10_component__131 lv_X10_271 hm3 hr3 rfl (by decide) rfl rfl rfl (Nat.le_of_ble_eq_true rfl) (fun _ _ => rfl) rfl ?_
  show SW sc m_X10_component_ _ _ _ 134 [some (.ref r0), none, none, none, some (.int l4)] [.int v3] g3 P
  exact sw_ret (v := (some (.int v3))) dX10_component__134 rt_i hP
theorem b_X10_distance_0 {r0 : Nat} {l1 : Int32} {l2 : Int32} {v4 : Int32} {g4 : ab_H} {fs4 : List Value} (hr4 : (h)[r0]? = some (10, fs4)) (hm4 : MSE m_X10_isVertex d [.ref r0, .int l1] h (some (.int v4)) g4) (kt : v4 = 0 → SW sc m_X10_distance (d + 1) rc rs 17 [some (.ref r0), some (.int l1), some (.int l2)] [.ref r0] g4 P) (kf : ¬ (v4 = 0) → SW sc m_X10_distance (d + 1) rc rs 9 [some (.ref r0), some (.int l1), some (.int l2)] [.ref r0] g4 P) : SW sc m_X10_distance (d + 1) rc rs 0 [some (.ref r0), some (.int l1), some (.int l2)] [] h P := by
  refine sw_aload_n dX10_distance_0 rfl ?_
  refine sw_aload_n dX10_distance_1 rfl ?_
  refine sw_iload_n dX10_distance_2 rfl ?_
  refine sw_cV (M := m_X10_distance) dX10_distance_3 lv_X10_283 hm4 hr4 rfl (by decide) rfl rfl rfl (Nat.le_of_ble_eq_true rfl) (fun _ _ => rfl) rfl ?_
  show SW sc m_X10_distance _ _ _ 6 [some (.ref r0), some (.int l1), some (.int l2)] [.int v4, .ref r0] g4 P
  exact sw_if_eq dX10_distance_6 (by decide) (fun q => (kt q)) (fun q => (kf q))
theorem b_X10_distance_9 {r0 : Nat} {l1 : Int32} {l2 : Int32} {q0 : Nat} {v3 : Int32} {g3 : ab_H} {fs3 : List Value} (hr3 : (h)[r0]? = some (10, fs3)) (hm3 : MSE m_X10_isVertex d [.ref r0, .int l2] h (some (.int v3)) g3) (kt : ¬ v3 = 0 → SW sc m_X10_distance (d + 1) rc rs 21 [some (.ref r0), some (.int l1), some (.int l2)] [.ref q0] g3 P) (kf : v3 = 0 → SW sc m_X10_distance (d + 1) rc rs 17 [some (.ref r0), some (.int l1), some (.int l2)] [.ref q0] g3 P) : SW sc m_X10_distance (d + 1) rc rs 9 [some (.ref r0), some (.int l1), some (.int l2)] [.ref q0] h P := by
  refine sw_aload_n dX10_distance_9 rfl ?_
  refine sw_iload_n dX10_distance_10 rfl ?_
  refine sw_cV (M := m_X10_distance) dX10_distance_11 lv_X10_283 hm3 hr3 rfl (by decide) rfl rfl rfl (Nat.le_of_ble_eq_true rfl) (fun _ _ => rfl) rfl ?_
  show SW sc m_X10_distance _ _ _ 14 [some (.ref r0), some (.int l1), some (.int l2)] [.int v3, .ref q0] g3 P
  exact sw_if_ne dX10_distance_14 (by decide) (fun q => (kt q)) (fun q => (kf q))
theorem b_X10_distance_17 {r0 : Nat} {l1 : Int32} {l2 : Int32} {q0 : Nat} (k : SW sc m_X10_distance d rc rs 22 [some (.ref r0), some (.int l1), some (.int l2)] [.int 1, .ref q0] h P) : SW sc m_X10_distance d rc rs 17 [some (.ref r0), some (.int l1), some (.int l2)] [.ref q0] h P := by
  refine sw_iconst (v := 1) dX10_distance_17 (by decide) ?_
  exact sw_goto dX10_distance_18 (by decide) (k)
theorem b_X10_distance_21 {r0 : Nat} {l1 : Int32} {l2 : Int32} {q0 : Nat} (k : SW sc m_X10_distance d rc rs 22 [some (.ref r0), some (.int l1), some (.int l2)] [.int 0, .ref q0] h P) : SW sc m_X10_distance d rc rs 21 [some (.ref r0), some (.int l1), some (.int l2)] [.ref q0] h P := by
  refine sw_iconst (v := 0) dX10_distance_21 (by decide) ?_
  exact (k)
theorem b_X10_distance_22 {r0 : Nat} {l1 : Int32} {l2 : Int32} {q0 : Nat} {s1 : Int32} {v2 : Int32} {g2 : ab_H} {fs2 : List Value} (hr2 : (h)[q0]? = some (10, fs2)) (hm2 : MSE m_X10_fails d [.ref q0, .int s1, .int 0] h (some (.int v2)) g2) (kt : v2 = 0 → SW sc m_X10_distance (d + 1) rc rs 33 [some (.ref r0), some (.int l1), some (.int l2)] [] g2 P) (kf : ¬ (v2 = 0) → SW sc m_X10_distance (d + 1) rc rs 29 [none, none, none] [] g2 P) : SW sc m_X10_distance (d + 1) rc rs 22 [some (.ref r0), some (.int l1), some (.int l2)] [.int s1, .ref q0] h P := by
  refine sw_iconst (v := 0) dX10_distance_22 (by decide) ?_
  refine sw_cV (M := m_X10_distance) dX10_distance_23 lv_X10_286 hm2 hr2 rfl (by decide) rfl rfl rfl (Nat.le_of_ble_eq_true rfl) (fun _ _ => rfl) rfl ?_
  show SW sc m_X10_distance _ _ _ 26 [some (.ref r0), some (.int l1), some (.int l2)] [.int v2] g2 P
  exact sw_if_eq dX10_distance_26 (by decide) (fun q => (kt q)) (fun q => (sw_fg [true, true, true] rfl (kf q)))
theorem b_X10_distance_29  (k : SW sc m_X10_distance d rc rs 39 [none, none, none] [.int 0] h P) : SW sc m_X10_distance d rc rs 29 [none, none, none] [] h P := by
  refine sw_iconst (v := 0) dX10_distance_29 (by decide) ?_
  exact sw_goto dX10_distance_30 (by decide) (k)
theorem b_X10_distance_33 {r0 : Nat} {l1 : Int32} {l2 : Int32} {v4 : Int32} {g4 : ab_H} {fs4 : List Value} (hr4 : (h)[r0]? = some (10, fs4)) (hm4 : MSE m_X10_far d [.ref r0, .int l1, .int l2] h (some (.int v4)) g4) (k : SW sc m_X10_distance (d + 1) rc rs 39 [none, none, none] [.int v4] g4 P) : SW sc m_X10_distance (d + 1) rc rs 33 [some (.ref r0), some (.int l1), some (.int l2)] [] h P := by
  refine sw_aload_n dX10_distance_33 rfl ?_
  refine sw_iload_n dX10_distance_34 rfl ?_
  refine sw_iload_n dX10_distance_35 rfl ?_
  refine sw_cV (M := m_X10_distance) dX10_distance_36 lv_X10_90 hm4 hr4 rfl (by decide) rfl rfl rfl (Nat.le_of_ble_eq_true rfl) (fun _ _ => rfl) rfl ?_
  show SW sc m_X10_distance _ _ _ 39 [some (.ref r0), some (.int l1), some (.int l2)] [.int v4] g4 P
  exact (sw_fg [true, true, true] rfl (k))
theorem b_X10_distance_39 {s0 : Int32} (hP : P (.inl (some (.int s0))) h) : SW sc m_X10_distance d rc rs 39 [none, none, none] [.int s0] h P := by
  exact sw_ret (v := (some (.int s0))) dX10_distance_39 rt_i hP
theorem b_X10_isBetween_0 {r0 : Nat} {l1 : Int32} {l2 : Int32} {l3 : Int32} {v4 : Int32} {g4 : ab_H} {fs4 : List Value} (hr4 : (h)[r0]? = some (10, fs4)) (hm4 : MSE m_X10_far d [.ref r0, .int l2, .int l1] h (some (.int v4)) g4) (kt : v4 = (-1) → SW sc m_X10_isBetween (d + 1) rc rs 36 [none, none, none, none] [] g4 P) (kf : ¬ (v4 = (-1)) → SW sc m_X10_isBetween (d + 1) rc rs 10 [some (.ref r0), some (.int l1), some (.int l2), some (.int l3)] [] g4 P) : SW sc m_X10_isBetween (d + 1) rc rs 0 [some (.ref r0), some (.int l1), some (.int l2), some (.int l3)] [] h P := by
  refine sw_aload_n dX10_isBetween_0 rfl ?_
  refine sw_iload_n dX10_isBetween_1 rfl ?_
  refine sw_iload_n dX10_isBetween_2 rfl ?_
  refine sw_cV (M := m_X10_isBetween) dX10_isBetween_3 lv_X10_90 hm4 hr4 rfl (by decide) rfl rfl rfl (Nat.le_of_ble_eq_true rfl) (fun _ _ => rfl) rfl ?_
  show SW sc m_X10_isBetween _ _ _ 6 [some (.ref r0), some (.int l1), some (.int l2), some (.int l3)] [.int v4] g4 P
  refine sw_iconst (v := (-1)) dX10_isBetween_6 (by decide) ?_
  exact sw_icmp_eq dX10_isBetween_7 (by decide) (fun q => (sw_fg [true, true, true, true] rfl (kt q))) (fun q => (kf q))
theorem b_X10_isBetween_10 {r0 : Nat} {l1 : Int32} {l2 : Int32} {l3 : Int32} {v4 : Int32} {g4 : ab_H} {fs4 : List Value} {v8 : Int32} {g8 : ab_H} {fs8 : List Value} {v13 : Int32} {g13 : ab_H} {fs13 : List Value} (hr4 : (h)[r0]? = some (10, fs4)) (hm4 : MSE m_X10_far d [.ref r0, .int l2, .int l1] h (some (.int v4)) g4) (hr8 : (g4)[r0]? = some (10, fs8)) (hm8 : MSE m_X10_far d [.ref r0, .int l1, .int l3] g4 (some (.int v8)) g8) (hr13 : (g8)[r0]? = some (10, fs13)) (hm13 : MSE m_X10_far d [.ref r0, .int l2, .int l3] g8 (some (.int v13)) g13) (kt : ¬ (v4 + v8) = v13 → SW sc m_X10_isBetween (d + 1) rc rs 36 [none, none, none, none] [] g13 P) (kf : (v4 + v8) = v13 → SW sc m_X10_isBetween (d + 1) rc rs 32 [none, none, none, none] [] g13 P) : SW sc m_X10_isBetween (d + 1) rc rs 10 [some (.ref r0), some (.int l1), some (.int l2), some (.int l3)] [] h P := by
  refine sw_aload_n dX10_isBetween_10 rfl ?_
  refine sw_iload_n dX10_isBetween_11 rfl ?_
  refine sw_iload_n dX10_isBetween_12 rfl ?_
  refine sw_cV (M := m_X10_isBetween) dX10_isBetween_13 lv_X10_90 hm4 hr4 rfl (by decide) rfl rfl rfl (Nat.le_of_ble_eq_true rfl) (fun _ _ => rfl) rfl ?_
  show SW sc m_X10_isBetween _ _ _ 16 [some (.ref r0), some (.int l1), some (.int l2), some (.int l3)] [.int v4] g4 P
  refine sw_aload_n dX10_isBetween_16 rfl ?_
  refine sw_iload_n dX10_isBetween_17 rfl ?_
  refine sw_iload_n dX10_isBetween_18 rfl ?_
  refine sw_cV (M := m_X10_isBetween) dX10_isBetween_19 lv_X10_90 hm8 hr8 rfl (by decide) rfl rfl rfl (Nat.le_of_ble_eq_true rfl) (fun _ _ => rfl) rfl ?_
  show SW sc m_X10_isBetween _ _ _ 22 [some (.ref r0), some (.int l1), some (.int l2), some (.int l3)] [.int v8, .int v4] g8 P
  refine sw_iadd dX10_isBetween_22 ?_
  refine sw_aload_n dX10_isBetween_23 rfl ?_
  refine sw_iload_n dX10_isBetween_24 rfl ?_
  refine sw_iload_n dX10_isBetween_25 rfl ?_
  refine sw_cV (M := m_X10_isBetween) dX10_isBetween_26 lv_X10_90 hm13 hr13 rfl (by decide) rfl rfl rfl (Nat.le_of_ble_eq_true rfl) (fun _ _ => rfl) rfl ?_
  show SW sc m_X10_isBetween _ _ _ 29 [some (.ref r0), some (.int l1), some (.int l2), some (.int l3)] [.int v13, .int (v4 + v8)] g13 P
  exact sw_icmp_ne dX10_isBetween_29 (by decide) (fun q => (sw_fg [true, true, true, true] rfl (kt q))) (fun q => (sw_fg [true, true, true, true] rfl (kf q)))
theorem b_X10_isBetween_32  (k : SW sc m_X10_isBetween d rc rs 37 [none, none, none, none] [.int 1] h P) : SW sc m_X10_isBetween d rc rs 32 [none, none, none, none] [] h P := by
  refine sw_iconst (v := 1) dX10_isBetween_32 (by decide) ?_
  exact sw_goto dX10_isBetween_33 (by decide) (k)
theorem b_X10_isBetween_36  (k : SW sc m_X10_isBetween d rc rs 37 [none, none, none, none] [.int 0] h P) : SW sc m_X10_isBetween d rc rs 36 [none, none, none, none] [] h P := by
  refine sw_iconst (v := 0) dX10_isBetween_36 (by decide) ?_
  exact (k)
theorem b_X10_isBetween_37 {s0 : Int32} (hz1 : narrow .boolean (.int s0) = .int s0) (hP : P (.inl (some (.int s0))) h) : SW sc m_X10_isBetween d rc rs 37 [none, none, none, none] [.int s0] h P := by
  exact sw_ret (v := (some (.int s0))) dX10_isBetween_37 (rt_n hz1) hP
theorem b_X10_onPath_0 {r0 : Nat} {l1 : Int32} {l2 : Int32} {l3 : Int32} {v3 : Int32} {g3 : ab_H} {fs3 : List Value} (hr3 : (h)[r0]? = some (10, fs3)) (hm3 : MSE m_X10_isVertex d [.ref r0, .int l1] h (some (.int v3)) g3) (kt : v3 = 0 → SW sc m_X10_onPath (d + 1) rc rs 20 [some (.ref r0), some (.int l1), some (.int l2), some (.int l3), none, none] [] g3 P) (kf : ¬ (v3 = 0) → SW sc m_X10_onPath (d + 1) rc rs 8 [some (.ref r0), some (.int l1), some (.int l2), some (.int l3), none, none] [] g3 P) : SW sc m_X10_onPath (d + 1) rc rs 0 [some (.ref r0), some (.int l1), some (.int l2), some (.int l3), none, none] [] h P := by
  refine sw_aload_n dX10_onPath_0 rfl ?_
  refine sw_iload_n dX10_onPath_1 rfl ?_
  refine sw_cV (M := m_X10_onPath) dX10_onPath_2 lv_X10_283 hm3 hr3 rfl (by decide) rfl rfl rfl (Nat.le_of_ble_eq_true rfl) (fun _ _ => rfl) rfl ?_
  show SW sc m_X10_onPath _ _ _ 5 [some (.ref r0), some (.int l1), some (.int l2), some (.int l3), none, none] [.int v3] g3 P
  exact sw_if_eq dX10_onPath_5 (by decide) (fun q => (kt q)) (fun q => (kf q))
theorem b_X10_onPath_8 {r0 : Nat} {l1 : Int32} {l2 : Int32} {l3 : Int32} {v3 : Int32} {g3 : ab_H} {fs3 : List Value} (hr3 : (h)[r0]? = some (10, fs3)) (hm3 : MSE m_X10_isVertex d [.ref r0, .int l2] h (some (.int v3)) g3) (kt : v3 = 0 → SW sc m_X10_onPath (d + 1) rc rs 20 [some (.ref r0), some (.int l1), some (.int l2), some (.int l3), none, none] [] g3 P) (kf : ¬ (v3 = 0) → SW sc m_X10_onPath (d + 1) rc rs 16 [some (.ref r0), some (.int l1), some (.int l2), some (.int l3), none, none] [] g3 P) : SW sc m_X10_onPath (d + 1) rc rs 8 [some (.ref r0), some (.int l1), some (.int l2), some (.int l3), none, none] [] h P := by
  refine sw_aload_n dX10_onPath_8 rfl ?_
  refine sw_iload_n dX10_onPath_9 rfl ?_
  refine sw_cV (M := m_X10_onPath) dX10_onPath_10 lv_X10_283 hm3 hr3 rfl (by decide) rfl rfl rfl (Nat.le_of_ble_eq_true rfl) (fun _ _ => rfl) rfl ?_
  show SW sc m_X10_onPath _ _ _ 13 [some (.ref r0), some (.int l1), some (.int l2), some (.int l3), none, none] [.int v3] g3 P
  exact sw_if_eq dX10_onPath_13 (by decide) (fun q => (kt q)) (fun q => (kf q))
theorem b_X10_onPath_16 {r0 : Nat} {l1 : Int32} {l2 : Int32} {l3 : Int32} (k : SW sc m_X10_onPath d rc rs 21 [some (.ref r0), some (.int l1), some (.int l2), some (.int l3), none, none] [.int 1] h P) : SW sc m_X10_onPath d rc rs 16 [some (.ref r0), some (.int l1), some (.int l2), some (.int l3), none, none] [] h P := by
  refine sw_iconst (v := 1) dX10_onPath_16 (by decide) ?_
  exact sw_goto dX10_onPath_17 (by decide) (k)
theorem b_X10_onPath_20 {r0 : Nat} {l1 : Int32} {l2 : Int32} {l3 : Int32} (k : SW sc m_X10_onPath d rc rs 21 [some (.ref r0), some (.int l1), some (.int l2), some (.int l3), none, none] [.int 0] h P) : SW sc m_X10_onPath d rc rs 20 [some (.ref r0), some (.int l1), some (.int l2), some (.int l3), none, none] [] h P := by
  refine sw_iconst (v := 0) dX10_onPath_20 (by decide) ?_
  exact (k)
theorem b_X10_onPath_21 {r0 : Nat} {l1 : Int32} {l2 : Int32} {l3 : Int32} {s0 : Int32} (kt : ¬ s0 = 0 → SW sc m_X10_onPath d rc rs 33 [some (.ref r0), some (.int l1), some (.int l2), some (.int l3), some (.int s0), none] [.ref r0] h P) (kf : s0 = 0 → SW sc m_X10_onPath d rc rs 29 [some (.ref r0), some (.int l1), some (.int l2), some (.int l3), some (.int s0), none] [.ref r0] h P) : SW sc m_X10_onPath d rc rs 21 [some (.ref r0), some (.int l1), some (.int l2), some (.int l3), none, none] [.int s0] h P := by
  refine sw_istore dX10_onPath_21 (by decide) rfl ?_
  show SW sc m_X10_onPath _ _ _ 23 [some (.ref r0), some (.int l1), some (.int l2), some (.int l3), some (.int s0), none] [] h P
  refine sw_aload_n dX10_onPath_23 rfl ?_
  refine sw_iload dX10_onPath_24 rfl ?_
  exact sw_if_ne dX10_onPath_26 (by decide) (fun q => (kt q)) (fun q => (kf q))
theorem b_X10_onPath_29 {r0 : Nat} {l1 : Int32} {l2 : Int32} {l3 : Int32} {l4 : Int32} {q0 : Nat} (k : SW sc m_X10_onPath d rc rs 34 [some (.ref r0), some (.int l1), some (.int l2), some (.int l3), some (.int l4), none] [.int 1, .ref q0] h P) : SW sc m_X10_onPath d rc rs 29 [some (.ref r0), some (.int l1), some (.int l2), some (.int l3), some (.int l4), none] [.ref q0] h P := by
  refine sw_iconst (v := 1) dX10_onPath_29 (by decide) ?_
  exact sw_goto dX10_onPath_30 (by decide) (k)
theorem b_X10_onPath_33 {r0 : Nat} {l1 : Int32} {l2 : Int32} {l3 : Int32} {l4 : Int32} {q0 : Nat} (k : SW sc m_X10_onPath d rc rs 34 [some (.ref r0), some (.int l1), some (.int l2), some (.int l3), some (.int l4), none] [.int 0, .ref q0] h P) : SW sc m_X10_onPath d rc rs 33 [some (.ref r0), some (.int l1), some (.int l2), some (.int l3), some (.int l4), none] [.ref q0] h P := by
  refine sw_iconst (v := 0) dX10_onPath_33 (by decide) ?_
  exact (k)
theorem b_X10_onPath_34 {r0 : Nat} {l1 : Int32} {l2 : Int32} {l3 : Int32} {l4 : Int32} {q0 : Nat} {s1 : Int32} (kt : l4 = 0 → SW sc m_X10_onPath d rc rs 67 [some (.ref r0), some (.int l1), some (.int l2), some (.int l3), none, none] [.int s1, .ref q0] h P) (kf : ¬ (l4 = 0) → SW sc m_X10_onPath d rc rs 39 [some (.ref r0), some (.int l1), some (.int l2), some (.int l3), none, none] [.int s1, .ref q0] h P) : SW sc m_X10_onPath d rc rs 34 [some (.ref r0), some (.int l1), some (.int l2), some (.int l3), some (.int l4), none] [.int s1, .ref q0] h P := by
  refine sw_iload dX10_onPath_34 rfl ?_
  exact sw_if_eq dX10_onPath_36 (by decide) (fun q => (sw_fg [false, false, false, false, true, false] rfl (kt q))) (fun q => (sw_fg [false, false, false, false, true, false] rfl (kf q)))
theorem b_X10_onPath_39 {r0 : Nat} {l1 : Int32} {l2 : Int32} {l3 : Int32} {q0 : Nat} {s1 : Int32} {v4 : Int32} {g4 : ab_H} {fs4 : List Value} (hr4 : (h)[r0]? = some (10, fs4)) (hm4 : MSE m_X10_far d [.ref r0, .int l1, .int l2] h (some (.int v4)) g4) (kt : v4 = (-1) → SW sc m_X10_onPath (d + 1) rc rs 63 [some (.ref r0), some (.int l1), some (.int l2), some (.int l3), none, none] [.int s1, .ref q0] g4 P) (kf : ¬ (v4 = (-1)) → SW sc m_X10_onPath (d + 1) rc rs 49 [some (.ref r0), some (.int l1), some (.int l2), some (.int l3), none, none] [.int s1, .ref q0] g4 P) : SW sc m_X10_onPath (d + 1) rc rs 39 [some (.ref r0), some (.int l1), some (.int l2), some (.int l3), none, none] [.int s1, .ref q0] h P := by
  refine sw_aload_n dX10_onPath_39 rfl ?_
  refine sw_iload_n dX10_onPath_40 rfl ?_
  refine sw_iload_n dX10_onPath_41 rfl ?_
  refine sw_cV (M := m_X10_onPath) dX10_onPath_42 lv_X10_90 hm4 hr4 rfl (by decide) rfl rfl rfl (Nat.le_of_ble_eq_true rfl) (fun _ _ => rfl) rfl ?_
  show SW sc m_X10_onPath _ _ _ 45 [some (.ref r0), some (.int l1), some (.int l2), some (.int l3), none, none] [.int v4, .int s1, .ref q0] g4 P
  refine sw_iconst (v := (-1)) dX10_onPath_45 (by decide) ?_
  exact sw_icmp_eq dX10_onPath_46 (by decide) (fun q => (kt q)) (fun q => (kf q))
theorem b_X10_onPath_49 {r0 : Nat} {l1 : Int32} {l2 : Int32} {l3 : Int32} {q0 : Nat} {s1 : Int32} {v6 : Int32} {g6 : ab_H} {fs6 : List Value} {v7 : Int32} {g7 : ab_H} (hr6 : (h)[r0]? = some (10, fs6)) (hm6 : MSE m_X10_far d [.ref r0, .int l1, .int l2] h (some (.int v6)) g6) (hm7 : MSE m_X10_isIn d [.int l3, .int 0, .int v6] g6 (some (.int v7)) g7) (kt : ¬ v7 = 0 → SW sc m_X10_onPath (d + 1) rc rs 67 [some (.ref r0), some (.int l1), some (.int l2), some (.int l3), none, none] [.int s1, .ref q0] g7 P) (kf : v7 = 0 → SW sc m_X10_onPath (d + 1) rc rs 63 [some (.ref r0), some (.int l1), some (.int l2), some (.int l3), none, none] [.int s1, .ref q0] g7 P) : SW sc m_X10_onPath (d + 1) rc rs 49 [some (.ref r0), some (.int l1), some (.int l2), some (.int l3), none, none] [.int s1, .ref q0] h P := by
  refine sw_iload_n dX10_onPath_49 rfl ?_
  refine sw_iconst (v := 0) dX10_onPath_50 (by decide) ?_
  refine sw_aload_n dX10_onPath_51 rfl ?_
  refine sw_iload_n dX10_onPath_52 rfl ?_
  refine sw_iload_n dX10_onPath_53 rfl ?_
  refine sw_cV (M := m_X10_onPath) dX10_onPath_54 lv_X10_90 hm6 hr6 rfl (by decide) rfl rfl rfl (Nat.le_of_ble_eq_true rfl) (fun _ _ => rfl) rfl ?_
  show SW sc m_X10_onPath _ _ _ 57 [some (.ref r0), some (.int l1), some (.int l2), some (.int l3), none, none] [.int v6, .int 0, .int l3, .int s1, .ref q0] g6 P
  refine sw_cS (M := m_X10_onPath) dX10_onPath_57 ls_X10_153 hm7 rfl rfl (Nat.le_of_ble_eq_true rfl) (fun _ _ => rfl) rfl ?_
  show SW sc m_X10_onPath _ _ _ 60 [some (.ref r0), some (.int l1), some (.int l2), some (.int l3), none, none] [.int v7, .int s1, .ref q0] g7 P
  exact sw_if_ne dX10_onPath_60 (by decide) (fun q => (kt q)) (fun q => (kf q))
theorem b_X10_onPath_63 {r0 : Nat} {l1 : Int32} {l2 : Int32} {l3 : Int32} {q0 : Nat} {s1 : Int32} (k : SW sc m_X10_onPath d rc rs 68 [some (.ref r0), some (.int l1), some (.int l2), some (.int l3), none, none] [.int 1, .int s1, .ref q0] h P) : SW sc m_X10_onPath d rc rs 63 [some (.ref r0), some (.int l1), some (.int l2), some (.int l3), none, none] [.int s1, .ref q0] h P := by
  refine sw_iconst (v := 1) dX10_onPath_63 (by decide) ?_
  exact sw_goto dX10_onPath_64 (by decide) (k)
theorem b_X10_onPath_67 {r0 : Nat} {l1 : Int32} {l2 : Int32} {l3 : Int32} {q0 : Nat} {s1 : Int32} (k : SW sc m_X10_onPath d rc rs 68 [some (.ref r0), some (.int l1), some (.int l2), some (.int l3), none, none] [.int 0, .int s1, .ref q0] h P) : SW sc m_X10_onPath d rc rs 67 [some (.ref r0), some (.int l1), some (.int l2), some (.int l3), none, none] [.int s1, .ref q0] h P := by
  refine sw_iconst (v := 0) dX10_onPath_67 (by decide) ?_
  exact (k)
theorem b_X10_onPath_68 {r0 : Nat} {l1 : Int32} {l2 : Int32} {l3 : Int32} {q0 : Nat} {s1 : Int32} {s2 : Int32} {v1 : Int32} {g1 : ab_H} {fs1 : List Value} (hr1 : (h)[q0]? = some (10, fs1)) (hm1 : MSE m_X10_fails d [.ref q0, .int s1, .int s2] h (some (.int v1)) g1) (kt : v1 = 0 → SW sc m_X10_onPath (d + 1) rc rs 76 [some (.ref r0), some (.int l1), some (.int l2), some (.int l3), none, none] [] g1 P) (kf : ¬ (v1 = 0) → SW sc m_X10_onPath (d + 1) rc rs 74 [none, none, none, none, none, none] [] g1 P) : SW sc m_X10_onPath (d + 1) rc rs 68 [some (.ref r0), some (.int l1), some (.int l2), some (.int l3), none, none] [.int s2, .int s1, .ref q0] h P := by
  refine sw_cV (M := m_X10_onPath) dX10_onPath_68 lv_X10_286 hm1 hr1 rfl (by decide) rfl rfl rfl (Nat.le_of_ble_eq_true rfl) (fun _ _ => rfl) rfl ?_
  show SW sc m_X10_onPath _ _ _ 71 [some (.ref r0), some (.int l1), some (.int l2), some (.int l3), none, none] [.int v1] g1 P
  exact sw_if_eq dX10_onPath_71 (by decide) (fun q => (kt q)) (fun q => (sw_fg [true, true, true, true, false, false] rfl (kf q)))
theorem b_X10_onPath_74  (hP : P (.inl (some (.int 0))) h) : SW sc m_X10_onPath d rc rs 74 [none, none, none, none, none, none] [] h P := by
  refine sw_iconst (v := 0) dX10_onPath_74 (by decide) ?_
  exact sw_ret (v := (some (.int 0))) dX10_onPath_75 rt_i hP
theorem b_X10_onPath_76 {r0 : Nat} {l1 : Int32} {l2 : Int32} {l3 : Int32} (k : SW sc m_X10_onPath d rc rs 79 [some (.ref r0), some (.int l1), some (.int l2), some (.int l3), none, some (.int 0)] [] h P) : SW sc m_X10_onPath d rc rs 76 [some (.ref r0), some (.int l1), some (.int l2), some (.int l3), none, none] [] h P := by
  refine sw_iconst (v := 0) dX10_onPath_76 (by decide) ?_
  refine sw_istore dX10_onPath_77 (by decide) rfl ?_
  show SW sc m_X10_onPath _ _ _ 79 [some (.ref r0), some (.int l1), some (.int l2), some (.int l3), none, some (.int 0)] [] h P
  exact (k)
theorem b_X10_onPath_79 {r0 : Nat} {l1 : Int32} {l2 : Int32} {l3 : Int32} {l5 : Int32} {v5 : Int32} {g5 : ab_H} {fs5 : List Value} (hr5 : (h)[r0]? = some (10, fs5)) (hm5 : MSE m_X10_isBetween d [.ref r0, .int l5, .int l1, .int l2] h (some (.int v5)) g5) (kt : v5 = 0 → SW sc m_X10_onPath (d + 1) rc rs 101 [some (.ref r0), some (.int l1), some (.int l2), some (.int l3), none, some (.int l5)] [] g5 P) (kf : ¬ (v5 = 0) → SW sc m_X10_onPath (d + 1) rc rs 90 [some (.ref r0), some (.int l1), some (.int l2), some (.int l3), none, some (.int l5)] [] g5 P) : SW sc m_X10_onPath (d + 1) rc rs 79 [some (.ref r0), some (.int l1), some (.int l2), some (.int l3), none, some (.int l5)] [] h P := by
  refine sw_aload_n dX10_onPath_79 rfl ?_
  refine sw_iload dX10_onPath_80 rfl ?_
  refine sw_iload_n dX10_onPath_82 rfl ?_
  refine sw_iload_n dX10_onPath_83 rfl ?_
  refine sw_cV (M := m_X10_onPath) dX10_onPath_84 lv_X10_301 hm5 hr5 rfl (by decide) rfl rfl rfl (Nat.le_of_ble_eq_true rfl) (fun _ _ => rfl) rfl ?_
  show SW sc m_X10_onPath _ _ _ 87 [some (.ref r0), some (.int l1), some (.int l2), some (.int l3), none, some (.int l5)] [.int v5] g5 P
  exact sw_if_eq dX10_onPath_87 (by decide) (fun q => (kt q)) (fun q => (kf q))
theorem b_X10_onPath_90 {r0 : Nat} {l1 : Int32} {l2 : Int32} {l3 : Int32} {l5 : Int32} {v4 : Int32} {g4 : ab_H} {fs4 : List Value} (hr4 : (h)[r0]? = some (10, fs4)) (hm4 : MSE m_X10_far d [.ref r0, .int l1, .int l5] h (some (.int v4)) g4) (kt : v4 = l3 → SW sc m_X10_onPath (d + 1) rc rs 107 [none, none, none, none, none, some (.int l5)] [] g4 P) (kf : ¬ (v4 = l3) → SW sc m_X10_onPath (d + 1) rc rs 101 [some (.ref r0), some (.int l1), some (.int l2), some (.int l3), none, some (.int l5)] [] g4 P) : SW sc m_X10_onPath (d + 1) rc rs 90 [some (.ref r0), some (.int l1), some (.int l2), some (.int l3), none, some (.int l5)] [] h P := by
  refine sw_aload_n dX10_onPath_90 rfl ?_
  refine sw_iload_n dX10_onPath_91 rfl ?_
  refine sw_iload dX10_onPath_92 rfl ?_
  refine sw_cV (M := m_X10_onPath) dX10_onPath_94 lv_X10_90 hm4 hr4 rfl (by decide) rfl rfl rfl (Nat.le_of_ble_eq_true rfl) (fun _ _ => rfl) rfl ?_
  show SW sc m_X10_onPath _ _ _ 97 [some (.ref r0), some (.int l1), some (.int l2), some (.int l3), none, some (.int l5)] [.int v4] g4 P
  refine sw_iload_n dX10_onPath_97 rfl ?_
  exact sw_icmp_eq dX10_onPath_98 (by decide) (fun q => (sw_fg [true, true, true, true, false, false] rfl (kt q))) (fun q => (kf q))
theorem b_X10_onPath_101 {r0 : Nat} {l1 : Int32} {l2 : Int32} {l3 : Int32} {l5 : Int32} (k : SW sc m_X10_onPath d rc rs 79 [some (.ref r0), some (.int l1), some (.int l2), some (.int l3), none, some (.int (l5 + 1))] [] h P) : SW sc m_X10_onPath d rc rs 101 [some (.ref r0), some (.int l1), some (.int l2), some (.int l3), none, some (.int l5)] [] h P := by
  refine sw_iinc (v := l5 + 1) dX10_onPath_101 rfl rfl (by decide) rfl ?_
  show SW sc m_X10_onPath _ _ _ 104 [some (.ref r0), some (.int l1), some (.int l2), some (.int l3), none, some (.int (l5 + 1))] [] h P
  exact sw_goto dX10_onPath_104 (by decide) (k)
theorem b_X10_onPath_107 {l5 : Int32} (hP : P (.inl (some (.int l5))) h) : SW sc m_X10_onPath d rc rs 107 [none, none, none, none, none, some (.int l5)] [] h P := by
  refine sw_iload dX10_onPath_107 rfl ?_
  exact sw_ret (v := (some (.int l5))) dX10_onPath_109 rt_i hP
theorem b_X10_median_0 {r0 : Nat} {l1 : Int32} {l2 : Int32} {l3 : Int32} {v3 : Int32} {g3 : ab_H} {fs3 : List Value} (hr3 : (h)[r0]? = some (10, fs3)) (hm3 : MSE m_X10_isVertex d [.ref r0, .int l1] h (some (.int v3)) g3) (kt : v3 = 0 → SW sc m_X10_median (d + 1) rc rs 28 [some (.ref r0), some (.int l1), some (.int l2), some (.int l3), none, none] [] g3 P) (kf : ¬ (v3 = 0) → SW sc m_X10_median (d + 1) rc rs 8 [some (.ref r0), some (.int l1), some (.int l2), some (.int l3), none, none] [] g3 P) : SW sc m_X10_median (d + 1) rc rs 0 [some (.ref r0), some (.int l1), some (.int l2), some (.int l3), none, none] [] h P := by
  refine sw_aload_n dX10_median_0 rfl ?_
  refine sw_iload_n dX10_median_1 rfl ?_
  refine sw_cV (M := m_X10_median) dX10_median_2 lv_X10_283 hm3 hr3 rfl (by decide) rfl rfl rfl (Nat.le_of_ble_eq_true rfl) (fun _ _ => rfl) rfl ?_
  show SW sc m_X10_median _ _ _ 5 [some (.ref r0), some (.int l1), some (.int l2), some (.int l3), none, none] [.int v3] g3 P
  exact sw_if_eq dX10_median_5 (by decide) (fun q => (kt q)) (fun q => (kf q))
theorem b_X10_median_8 {r0 : Nat} {l1 : Int32} {l2 : Int32} {l3 : Int32} {v3 : Int32} {g3 : ab_H} {fs3 : List Value} (hr3 : (h)[r0]? = some (10, fs3)) (hm3 : MSE m_X10_isVertex d [.ref r0, .int l2] h (some (.int v3)) g3) (kt : v3 = 0 → SW sc m_X10_median (d + 1) rc rs 28 [some (.ref r0), some (.int l1), some (.int l2), some (.int l3), none, none] [] g3 P) (kf : ¬ (v3 = 0) → SW sc m_X10_median (d + 1) rc rs 16 [some (.ref r0), some (.int l1), some (.int l2), some (.int l3), none, none] [] g3 P) : SW sc m_X10_median (d + 1) rc rs 8 [some (.ref r0), some (.int l1), some (.int l2), some (.int l3), none, none] [] h P := by
  refine sw_aload_n dX10_median_8 rfl ?_
  refine sw_iload_n dX10_median_9 rfl ?_
  refine sw_cV (M := m_X10_median) dX10_median_10 lv_X10_283 hm3 hr3 rfl (by decide) rfl rfl rfl (Nat.le_of_ble_eq_true rfl) (fun _ _ => rfl) rfl ?_
  show SW sc m_X10_median _ _ _ 13 [some (.ref r0), some (.int l1), some (.int l2), some (.int l3), none, none] [.int v3] g3 P
  exact sw_if_eq dX10_median_13 (by decide) (fun q => (kt q)) (fun q => (kf q))
theorem b_X10_median_16 {r0 : Nat} {l1 : Int32} {l2 : Int32} {l3 : Int32} {v3 : Int32} {g3 : ab_H} {fs3 : List Value} (hr3 : (h)[r0]? = some (10, fs3)) (hm3 : MSE m_X10_isVertex d [.ref r0, .int l3] h (some (.int v3)) g3) (kt : v3 = 0 → SW sc m_X10_median (d + 1) rc rs 28 [some (.ref r0), some (.int l1), some (.int l2), some (.int l3), none, none] [] g3 P) (kf : ¬ (v3 = 0) → SW sc m_X10_median (d + 1) rc rs 24 [some (.ref r0), some (.int l1), some (.int l2), some (.int l3), none, none] [] g3 P) : SW sc m_X10_median (d + 1) rc rs 16 [some (.ref r0), some (.int l1), some (.int l2), some (.int l3), none, none] [] h P := by
  refine sw_aload_n dX10_median_16 rfl ?_
  refine sw_iload_n dX10_median_17 rfl ?_
  refine sw_cV (M := m_X10_median) dX10_median_18 lv_X10_283 hm3 hr3 rfl (by decide) rfl rfl rfl (Nat.le_of_ble_eq_true rfl) (fun _ _ => rfl) rfl ?_
  show SW sc m_X10_median _ _ _ 21 [some (.ref r0), some (.int l1), some (.int l2), some (.int l3), none, none] [.int v3] g3 P
  exact sw_if_eq dX10_median_21 (by decide) (fun q => (kt q)) (fun q => (kf q))
theorem b_X10_median_24 {r0 : Nat} {l1 : Int32} {l2 : Int32} {l3 : Int32} (k : SW sc m_X10_median d rc rs 29 [some (.ref r0), some (.int l1), some (.int l2), some (.int l3), none, none] [.int 1] h P) : SW sc m_X10_median d rc rs 24 [some (.ref r0), some (.int l1), some (.int l2), some (.int l3), none, none] [] h P := by
  refine sw_iconst (v := 1) dX10_median_24 (by decide) ?_
  exact sw_goto dX10_median_25 (by decide) (k)
theorem b_X10_median_28 {r0 : Nat} {l1 : Int32} {l2 : Int32} {l3 : Int32} (k : SW sc m_X10_median d rc rs 29 [some (.ref r0), some (.int l1), some (.int l2), some (.int l3), none, none] [.int 0] h P) : SW sc m_X10_median d rc rs 28 [some (.ref r0), some (.int l1), some (.int l2), some (.int l3), none, none] [] h P := by
  refine sw_iconst (v := 0) dX10_median_28 (by decide) ?_
  exact (k)
theorem b_X10_median_29 {r0 : Nat} {l1 : Int32} {l2 : Int32} {l3 : Int32} {s0 : Int32} (kt : ¬ s0 = 0 → SW sc m_X10_median d rc rs 41 [some (.ref r0), some (.int l1), some (.int l2), some (.int l3), some (.int s0), none] [.ref r0] h P) (kf : s0 = 0 → SW sc m_X10_median d rc rs 37 [some (.ref r0), some (.int l1), some (.int l2), some (.int l3), some (.int s0), none] [.ref r0] h P) : SW sc m_X10_median d rc rs 29 [some (.ref r0), some (.int l1), some (.int l2), some (.int l3), none, none] [.int s0] h P := by
  refine sw_istore dX10_median_29 (by decide) rfl ?_
  show SW sc m_X10_median _ _ _ 31 [some (.ref r0), some (.int l1), some (.int l2), some (.int l3), some (.int s0), none] [] h P
  refine sw_aload_n dX10_median_31 rfl ?_
  refine sw_iload dX10_median_32 rfl ?_
  exact sw_if_ne dX10_median_34 (by decide) (fun q => (kt q)) (fun q => (kf q))
theorem b_X10_median_37 {r0 : Nat} {l1 : Int32} {l2 : Int32} {l3 : Int32} {l4 : Int32} {q0 : Nat} (k : SW sc m_X10_median d rc rs 42 [some (.ref r0), some (.int l1), some (.int l2), some (.int l3), some (.int l4), none] [.int 1, .ref q0] h P) : SW sc m_X10_median d rc rs 37 [some (.ref r0), some (.int l1), some (.int l2), some (.int l3), some (.int l4), none] [.ref q0] h P := by
  refine sw_iconst (v := 1) dX10_median_37 (by decide) ?_
  exact sw_goto dX10_median_38 (by decide) (k)
theorem b_X10_median_41 {r0 : Nat} {l1 : Int32} {l2 : Int32} {l3 : Int32} {l4 : Int32} {q0 : Nat} (k : SW sc m_X10_median d rc rs 42 [some (.ref r0), some (.int l1), some (.int l2), some (.int l3), some (.int l4), none] [.int 0, .ref q0] h P) : SW sc m_X10_median d rc rs 41 [some (.ref r0), some (.int l1), some (.int l2), some (.int l3), some (.int l4), none] [.ref q0] h P := by
  refine sw_iconst (v := 0) dX10_median_41 (by decide) ?_
  exact (k)
theorem b_X10_median_42 {r0 : Nat} {l1 : Int32} {l2 : Int32} {l3 : Int32} {l4 : Int32} {q0 : Nat} {s1 : Int32} (kt : l4 = 0 → SW sc m_X10_median d rc rs 71 [some (.ref r0), some (.int l1), some (.int l2), some (.int l3), none, none] [.int s1, .ref q0] h P) (kf : ¬ (l4 = 0) → SW sc m_X10_median d rc rs 47 [some (.ref r0), some (.int l1), some (.int l2), some (.int l3), none, none] [.int s1, .ref q0] h P) : SW sc m_X10_median d rc rs 42 [some (.ref r0), some (.int l1), some (.int l2), some (.int l3), some (.int l4), none] [.int s1, .ref q0] h P := by
  refine sw_iload dX10_median_42 rfl ?_
  exact sw_if_eq dX10_median_44 (by decide) (fun q => (sw_fg [false, false, false, false, true, false] rfl (kt q))) (fun q => (sw_fg [false, false, false, false, true, false] rfl (kf q)))
theorem b_X10_median_47 {r0 : Nat} {l1 : Int32} {l2 : Int32} {l3 : Int32} {q0 : Nat} {s1 : Int32} {v4 : Int32} {g4 : ab_H} {fs4 : List Value} (hr4 : (h)[r0]? = some (10, fs4)) (hm4 : MSE m_X10_far d [.ref r0, .int l1, .int l2] h (some (.int v4)) g4) (kt : v4 = (-1) → SW sc m_X10_median (d + 1) rc rs 67 [some (.ref r0), some (.int l1), some (.int l2), some (.int l3), none, none] [.int s1, .ref q0] g4 P) (kf : ¬ (v4 = (-1)) → SW sc m_X10_median (d + 1) rc rs 57 [some (.ref r0), some (.int l1), some (.int l2), some (.int l3), none, none] [.int s1, .ref q0] g4 P) : SW sc m_X10_median (d + 1) rc rs 47 [some (.ref r0), some (.int l1), some (.int l2), some (.int l3), none, none] [.int s1, .ref q0] h P := by
  refine sw_aload_n dX10_median_47 rfl ?_
  refine sw_iload_n dX10_median_48 rfl ?_
  refine sw_iload_n dX10_median_49 rfl ?_
  refine sw_cV (M := m_X10_median) dX10_median_50 lv_X10_90 hm4 hr4 rfl (by decide) rfl rfl rfl (Nat.le_of_ble_eq_true rfl) (fun _ _ => rfl) rfl ?_
  show SW sc m_X10_median _ _ _ 53 [some (.ref r0), some (.int l1), some (.int l2), some (.int l3), none, none] [.int v4, .int s1, .ref q0] g4 P
  refine sw_iconst (v := (-1)) dX10_median_53 (by decide) ?_
  exact sw_icmp_eq dX10_median_54 (by decide) (fun q => (kt q)) (fun q => (kf q))
theorem b_X10_median_57 {r0 : Nat} {l1 : Int32} {l2 : Int32} {l3 : Int32} {q0 : Nat} {s1 : Int32} {v4 : Int32} {g4 : ab_H} {fs4 : List Value} (hr4 : (h)[r0]? = some (10, fs4)) (hm4 : MSE m_X10_far d [.ref r0, .int l1, .int l3] h (some (.int v4)) g4) (kt : ¬ v4 = (-1) → SW sc m_X10_median (d + 1) rc rs 71 [some (.ref r0), some (.int l1), some (.int l2), some (.int l3), none, none] [.int s1, .ref q0] g4 P) (kf : v4 = (-1) → SW sc m_X10_median (d + 1) rc rs 67 [some (.ref r0), some (.int l1), some (.int l2), some (.int l3), none, none] [.int s1, .ref q0] g4 P) : SW sc m_X10_median (d + 1) rc rs 57 [some (.ref r0), some (.int l1), some (.int l2), some (.int l3), none, none] [.int s1, .ref q0] h P := by
  refine sw_aload_n dX10_median_57 rfl ?_
  refine sw_iload_n dX10_median_58 rfl ?_
  refine sw_iload_n dX10_median_59 rfl ?_
  refine sw_cV (M := m_X10_median) dX10_median_60 lv_X10_90 hm4 hr4 rfl (by decide) rfl rfl rfl (Nat.le_of_ble_eq_true rfl) (fun _ _ => rfl) rfl ?_
  show SW sc m_X10_median _ _ _ 63 [some (.ref r0), some (.int l1), some (.int l2), some (.int l3), none, none] [.int v4, .int s1, .ref q0] g4 P
  refine sw_iconst (v := (-1)) dX10_median_63 (by decide) ?_
  exact sw_icmp_ne dX10_median_64 (by decide) (fun q => (kt q)) (fun q => (kf q))
theorem b_X10_median_67 {r0 : Nat} {l1 : Int32} {l2 : Int32} {l3 : Int32} {q0 : Nat} {s1 : Int32} (k : SW sc m_X10_median d rc rs 72 [some (.ref r0), some (.int l1), some (.int l2), some (.int l3), none, none] [.int 1, .int s1, .ref q0] h P) : SW sc m_X10_median d rc rs 67 [some (.ref r0), some (.int l1), some (.int l2), some (.int l3), none, none] [.int s1, .ref q0] h P := by
  refine sw_iconst (v := 1) dX10_median_67 (by decide) ?_
  exact sw_goto dX10_median_68 (by decide) (k)
theorem b_X10_median_71 {r0 : Nat} {l1 : Int32} {l2 : Int32} {l3 : Int32} {q0 : Nat} {s1 : Int32} (k : SW sc m_X10_median d rc rs 72 [some (.ref r0), some (.int l1), some (.int l2), some (.int l3), none, none] [.int 0, .int s1, .ref q0] h P) : SW sc m_X10_median d rc rs 71 [some (.ref r0), some (.int l1), some (.int l2), some (.int l3), none, none] [.int s1, .ref q0] h P := by
  refine sw_iconst (v := 0) dX10_median_71 (by decide) ?_
  exact (k)
end
