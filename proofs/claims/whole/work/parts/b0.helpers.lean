section
variable {sc : Option (List Int32)} {M N : ab_M} {d rc rs pc : Nat} {ls : List (Option Value)} {st : List Value} {h h2 : ab_H} {P : ab_O → ab_H → Prop} {c c' : Nat → List Value}
/-! the law's own methods -/
theorem sw_room {a b : Nat} (k : SW sc M d rc rs pc ls st h P) : SW sc M d (rc + a) (rs + b) pc ls st h P := by
  intro p l e R s m args below meth c Q D dA τ A σ0 n0 Cm Sm hX σ H locs cells slots lv hY hl hol hos
  exact k.use hX ⟨hY.1, hY.2.1, hY.2.2.1, hY.2.2.2.1, hY.2.2.2.2.1, hY.2.2.2.2.2.1, by have := hY.2.2.2.2.2.2.1; omega, by have := hY.2.2.2.2.2.2.2; omega⟩ hl hol hos
theorem vt_int {v : Value} (h : M.2.2.2.1 = some .int ∨ M.2.2.2.1 = some .boolean) (hv : vt M v) : ∃ y, v = .int y := by
  unfold vt at hv
  rcases h with h | h <;> rw [h] at hv <;> cases v <;> first | exact ⟨_, rfl⟩ | exact hv.elim
theorem vt_dbl {v : Value} (h : M.2.2.2.1 = some .double) (hv : vt M v) : ∃ y, v = .double y ∧ vf_n64 y := by
  unfold vt at hv
  rw [h] at hv
  cases v <;> first | exact ⟨_, rfl, hv⟩ | exact hv.elim
theorem vt_flt {v : Value} (h : M.2.2.2.1 = some .float) (hv : vt M v) : ∃ y, v = .float y ∧ vf_n64 (FP.f2d y) ∧ Op.cmpValue (FP.dcmp (FP.f2d y) (FP.f2d y)) .l = 0 := by
  unfold vt at hv
  rw [h] at hv
  cases v <;> first | exact ⟨_, rfl, hv.2⟩ | exact hv.elim
theorem INV.o (I : INV c) : (hp c)[0]? = some (9, x0L) := by
  obtain ⟨n, g, w, nx, ch, kp, Hg, Hw, Sg, Sw, a, im, fi, om, fo, S, M, Dt⟩ := I
  exact hp_is 0 9 S.1.1.1 (by decide) (by decide)
theorem INV.m (I : INV c) : ∃ z, c 70 = moL z := by
  obtain ⟨n, g, w, nx, ch, kp, Hg, Hw, Sg, Sw, a, im, fi, om, fo, S, M, Dt⟩ := I
  obtain ⟨z, hz, -⟩ := M.1.Z
  exact ⟨z, hz⟩
/-- a helper of the law's, and the reference after it -/
def HP (ML M10 : ab_M) (D : Nat) (as : List Value) (L : Int32 → Int64) (c : Nat → List Value) : Prop := ∃ kk y c1 c2, MS ML (D + 1) 1 6 (.ref 0 :: (as ++ [.ref 82])) (hp c) (fun o h => o = .inl (some (.int (nI kk))) ∧ h = hp c1) ∧ MSE M10 D (.ref 70 :: as) (hp c1) (some (.int y)) (hp c2) ∧ TH c2 kk ∧ kk < 5 ∧ INV c2 ∧ (∃ b, c2 82 = [.long b] ∧ (kk = 0 → b = L y)) ∧ c2 83 = c 83 ∧ ∃ z, c1 70 = moL z
/-- .. that answers a double -/
def HD (ML M10 : ab_M) (D : Nat) (as : List Value) (c : Nat → List Value) : Prop := ∃ kk y c1 c2, MS ML (D + 1) 1 6 (.ref 0 :: (as ++ [.ref 83])) (hp c) (fun o h => o = .inl (some (.int (nI kk))) ∧ h = hp c1) ∧ MSE M10 D (.ref 70 :: as) (hp c1) (some (.double y)) (hp c2) ∧ TH c2 kk ∧ kk < 5 ∧ INV c2 ∧ (∃ b, c2 83 = [.double b] ∧ (kk = 0 → b = y)) ∧ c2 82 = c 82 ∧ ∃ z, c1 70 = moL z
/-- .. or a float -/
def HF_ (ML M10 : ab_M) (D : Nat) (as : List Value) (c : Nat → List Value) : Prop := ∃ kk y c1 c2, MS ML (D + 1) 1 6 (.ref 0 :: (as ++ [.ref 83])) (hp c) (fun o h => o = .inl (some (.int (nI kk))) ∧ h = hp c1) ∧ MSE M10 D (.ref 70 :: as) (hp c1) (some (.float y)) (hp c2) ∧ TH c2 kk ∧ kk < 5 ∧ INV c2 ∧ (∃ b, c2 83 = [.double b] ∧ (kk = 0 → b = FP.f2d y)) ∧ (vf_n64 (FP.f2d y) ∧ Op.cmpValue (FP.dcmp (FP.f2d y) (FP.f2d y)) .l = 0) ∧ c2 82 = c 82 ∧ ∃ z, c1 70 = moL z
theorem lj_b {y : Int32} (h : y = 0) : (if y = 0 then (0 : Int64) else 1) = 0 := if_pos h
theorem lj_c {y : Int32} (h : ¬ y = 0) : (if y = 0 then (0 : Int64) else 1) = 1 := if_neg h

theorem h_vertex {x y : Int32} (I : INV c) (g82 : ∃ a, c 82 = [.long a]) (g83 : ∃ a, c 83 = [.double a]) : HP m_L_vertex m_X10_vertex (d + 20) [.int x, .int y] (fun y => y.toInt64) c := by
  rcases p_vertex (d := d) (x := x) (y := y) I with ⟨c1, v, m9, hv, b1, k⟩ | ⟨e, c2, v, m9, hv, m10, th, hk, I2, b2⟩
  · obtain ⟨w, rfl⟩ := vt_int (Or.inl rfl) hv
    obtain ⟨a, g82⟩ := g82
    have e82 : c1 82 = [.long a] := (b1 82 (by decide)).trans g82
    obtain ⟨c2, m10, th, I2, b2⟩ := k (up1 c1 82 [.long w.toInt64]) (fun i hi => up1_ne _ _ (by omega))
    obtain ⟨z, hz⟩ := I.m
    refine ⟨0, w, _, c2, MS.of (by decide +kernel) (Nat.le_of_ble_eq_true rfl) cw_L_vertex ?_, m10, th, by decide, I2, ⟨w.toInt64, (b2 82 (by decide)).trans (up1_same _ _ _), fun _ => rfl⟩, (b2 83 (by decide)).trans ((up1_ne _ _ (by decide)).trans (b1 83 (by decide))), z, (up1_ne _ _ (by decide)).trans ((b1 70 (by decide)).trans hz)⟩
    refine sw_room (rc := 0) (rs := 0) (a := 1) (b := 6) ?_
    show SW none m_L_vertex (d + 20 + 1) 0 0 0 [some (.ref 0), some (.int x), some (.int y), some (.ref 82), none] [] (hp c) _
    refine sw_aload_n dL_vertex_0 rfl ?_
    refine sw_iconst (v := 0) dL_vertex_1 (by decide) ?_
    refine sw_aload_n dL_vertex_2 rfl ?_
    refine sw_iload_n dL_vertex_3 rfl ?_
    refine sw_iload_n dL_vertex_4 rfl ?_
    refine sw_cV (M := m_L_vertex) dL_vertex_5 lv_L_7 m9 I.o rfl (by decide) rfl rfl rfl (Nat.le_of_ble_eq_true rfl) (fun _ _ => rfl) rfl ?_
    refine sw_i2l dL_vertex_8 ?_
    refine sw_last (vs := [.long a]) dL_vertex_9 (hp_is 82 102 e82 (by decide) (by decide)) (by decide) (by show 0 < 1; decide) ?_
    refine sw_goto (tgt := 21) dL_vertex_10 (by decide) ?_
    refine sw_iconst (v := 0) dL_vertex_21 (by decide) ?_
    exact sw_ret (v := some (.int 0)) dL_vertex_22 rt_i ⟨rfl, hp_set (by decide) (by decide)⟩
  · obtain ⟨w, rfl⟩ := vt_int (Or.inl rfl) hv
    obtain ⟨z, hz⟩ := I.m
    obtain ⟨a, g82⟩ := g82
    by_cases h1 : e = 1
    · subst h1
      refine ⟨1, w, c, c2, MS.of (by decide +kernel) (Nat.le_of_ble_eq_true rfl) cw_L_vertex ?_, m10, th, by decide, I2, ⟨a, (b2 82 (by decide)).trans g82, fun q => (by cases q)⟩, b2 83 (by decide), z, hz⟩
      show SW none m_L_vertex (d + 20 + 1) (0 + 1) (0 + 6) 0 [some (.ref 0), some (.int x), some (.int y), some (.ref 82), none] [] (hp c) _
      refine sw_aload_n dL_vertex_0 rfl ?_
      refine sw_iconst (v := 0) dL_vertex_1 (by decide) ?_
      refine sw_aload_n dL_vertex_2 rfl ?_
      refine sw_iload_n dL_vertex_3 rfl ?_
      refine sw_iload_n dL_vertex_4 rfl ?_
      refine sw_xV (M := m_L_vertex) (rc := 0) (rs := 0) dL_vertex_5 lv_L_7 m9 I.o rfl (by decide) rfl rfl rfl (Nat.le_of_ble_eq_true rfl) (fun _ _ => rfl) rfl ?_
      refine st_catch lc_L_vertex_1 dL_vertex_13 (by decide) rfl ?_
      refine sw_iconst (v := 1) dL_vertex_15 (by decide) ?_
      exact sw_ret (v := some (.int 1)) dL_vertex_16 rt_i ⟨rfl, rfl⟩
    · by_cases h2 : e = 2
      · subst h2
        refine ⟨2, w, c, c2, MS.of (by decide +kernel) (Nat.le_of_ble_eq_true rfl) cw_L_vertex ?_, m10, th, by decide, I2, ⟨a, (b2 82 (by decide)).trans g82, fun q => (by cases q)⟩, b2 83 (by decide), z, hz⟩
        show SW none m_L_vertex (d + 20 + 1) (0 + 1) (0 + 6) 0 [some (.ref 0), some (.int x), some (.int y), some (.ref 82), none] [] (hp c) _
        refine sw_aload_n dL_vertex_0 rfl ?_
        refine sw_iconst (v := 0) dL_vertex_1 (by decide) ?_
        refine sw_aload_n dL_vertex_2 rfl ?_
        refine sw_iload_n dL_vertex_3 rfl ?_
        refine sw_iload_n dL_vertex_4 rfl ?_
        refine sw_xV (M := m_L_vertex) (rc := 0) (rs := 0) dL_vertex_5 lv_L_7 m9 I.o rfl (by decide) rfl rfl rfl (Nat.le_of_ble_eq_true rfl) (fun _ _ => rfl) rfl ?_
        refine st_catch lc_L_vertex_2 dL_vertex_17 (by decide) rfl ?_
        refine sw_iconst (v := 2) dL_vertex_19 (by decide) ?_
        exact sw_ret (v := some (.int 2)) dL_vertex_20 rt_i ⟨rfl, rfl⟩
      · exact absurd ((if_neg h1).trans (if_neg h2)) hk
theorem h_component {x y : Int32} (I : INV c) (g82 : ∃ a, c 82 = [.long a]) (g83 : ∃ a, c 83 = [.double a]) : HP m_L_component m_X10_component_ (d + 20) [.int x, .int y] (fun y => y.toInt64) c := by
  rcases p_component (d := d) (x := x) (y := y) I with ⟨c1, v, m9, hv, b1, k⟩ | ⟨e, c2, v, m9, hv, m10, th, hk, I2, b2⟩
  · obtain ⟨w, rfl⟩ := vt_int (Or.inl rfl) hv
    obtain ⟨a, g82⟩ := g82
    have e82 : c1 82 = [.long a] := (b1 82 (by decide)).trans g82
    obtain ⟨c2, m10, th, I2, b2⟩ := k (up1 c1 82 [.long w.toInt64]) (fun i hi => up1_ne _ _ (by omega))
    obtain ⟨z, hz⟩ := I.m
    refine ⟨0, w, _, c2, MS.of (by decide +kernel) (Nat.le_of_ble_eq_true rfl) cw_L_component ?_, m10, th, by decide, I2, ⟨w.toInt64, (b2 82 (by decide)).trans (up1_same _ _ _), fun _ => rfl⟩, (b2 83 (by decide)).trans ((up1_ne _ _ (by decide)).trans (b1 83 (by decide))), z, (up1_ne _ _ (by decide)).trans ((b1 70 (by decide)).trans hz)⟩
    refine sw_room (rc := 0) (rs := 0) (a := 1) (b := 6) ?_
    show SW none m_L_component (d + 20 + 1) 0 0 0 [some (.ref 0), some (.int x), some (.int y), some (.ref 82), none] [] (hp c) _
    refine sw_aload_n dL_component_0 rfl ?_
    refine sw_iconst (v := 0) dL_component_1 (by decide) ?_
    refine sw_aload_n dL_component_2 rfl ?_
    refine sw_iload_n dL_component_3 rfl ?_
    refine sw_iload_n dL_component_4 rfl ?_
    refine sw_cV (M := m_L_component) dL_component_5 lv_L_17 m9 I.o rfl (by decide) rfl rfl rfl (Nat.le_of_ble_eq_true rfl) (fun _ _ => rfl) rfl ?_
    refine sw_i2l dL_component_8 ?_
    refine sw_last (vs := [.long a]) dL_component_9 (hp_is 82 102 e82 (by decide) (by decide)) (by decide) (by show 0 < 1; decide) ?_
    refine sw_goto (tgt := 21) dL_component_10 (by decide) ?_
    refine sw_iconst (v := 0) dL_component_21 (by decide) ?_
    exact sw_ret (v := some (.int 0)) dL_component_22 rt_i ⟨rfl, hp_set (by decide) (by decide)⟩
  · obtain ⟨w, rfl⟩ := vt_int (Or.inl rfl) hv
    obtain ⟨z, hz⟩ := I.m
    obtain ⟨a, g82⟩ := g82
    by_cases h1 : e = 1
    · subst h1
      refine ⟨1, w, c, c2, MS.of (by decide +kernel) (Nat.le_of_ble_eq_true rfl) cw_L_component ?_, m10, th, by decide, I2, ⟨a, (b2 82 (by decide)).trans g82, fun q => (by cases q)⟩, b2 83 (by decide), z, hz⟩
      show SW none m_L_component (d + 20 + 1) (0 + 1) (0 + 6) 0 [some (.ref 0), some (.int x), some (.int y), some (.ref 82), none] [] (hp c) _
      refine sw_aload_n dL_component_0 rfl ?_
      refine sw_iconst (v := 0) dL_component_1 (by decide) ?_
      refine sw_aload_n dL_component_2 rfl ?_
      refine sw_iload_n dL_component_3 rfl ?_
      refine sw_iload_n dL_component_4 rfl ?_
      refine sw_xV (M := m_L_component) (rc := 0) (rs := 0) dL_component_5 lv_L_17 m9 I.o rfl (by decide) rfl rfl rfl (Nat.le_of_ble_eq_true rfl) (fun _ _ => rfl) rfl ?_
      refine st_catch lc_L_component_1 dL_component_13 (by decide) rfl ?_
      refine sw_iconst (v := 1) dL_component_15 (by decide) ?_
      exact sw_ret (v := some (.int 1)) dL_component_16 rt_i ⟨rfl, rfl⟩
    · by_cases h2 : e = 2
      · subst h2
        refine ⟨2, w, c, c2, MS.of (by decide +kernel) (Nat.le_of_ble_eq_true rfl) cw_L_component ?_, m10, th, by decide, I2, ⟨a, (b2 82 (by decide)).trans g82, fun q => (by cases q)⟩, b2 83 (by decide), z, hz⟩
        show SW none m_L_component (d + 20 + 1) (0 + 1) (0 + 6) 0 [some (.ref 0), some (.int x), some (.int y), some (.ref 82), none] [] (hp c) _
        refine sw_aload_n dL_component_0 rfl ?_
        refine sw_iconst (v := 0) dL_component_1 (by decide) ?_
        refine sw_aload_n dL_component_2 rfl ?_
        refine sw_iload_n dL_component_3 rfl ?_
        refine sw_iload_n dL_component_4 rfl ?_
        refine sw_xV (M := m_L_component) (rc := 0) (rs := 0) dL_component_5 lv_L_17 m9 I.o rfl (by decide) rfl rfl rfl (Nat.le_of_ble_eq_true rfl) (fun _ _ => rfl) rfl ?_
        refine st_catch lc_L_component_2 dL_component_17 (by decide) rfl ?_
        refine sw_iconst (v := 2) dL_component_19 (by decide) ?_
        exact sw_ret (v := some (.int 2)) dL_component_20 rt_i ⟨rfl, rfl⟩
      · exact absurd ((if_neg h1).trans (if_neg h2)) hk
theorem h_distance {x y : Int32} (I : INV c) (g82 : ∃ a, c 82 = [.long a]) (g83 : ∃ a, c 83 = [.double a]) : HP m_L_distance m_X10_distance (d + 20) [.int x, .int y] (fun y => y.toInt64) c := by
  rcases p_distance (d := d) (x := x) (y := y) I with ⟨c1, v, m9, hv, b1, k⟩ | ⟨e, c2, v, m9, hv, m10, th, hk, I2, b2⟩
  · obtain ⟨w, rfl⟩ := vt_int (Or.inl rfl) hv
    obtain ⟨a, g82⟩ := g82
    have e82 : c1 82 = [.long a] := (b1 82 (by decide)).trans g82
    obtain ⟨c2, m10, th, I2, b2⟩ := k (up1 c1 82 [.long w.toInt64]) (fun i hi => up1_ne _ _ (by omega))
    obtain ⟨z, hz⟩ := I.m
    refine ⟨0, w, _, c2, MS.of (by decide +kernel) (Nat.le_of_ble_eq_true rfl) cw_L_distance ?_, m10, th, by decide, I2, ⟨w.toInt64, (b2 82 (by decide)).trans (up1_same _ _ _), fun _ => rfl⟩, (b2 83 (by decide)).trans ((up1_ne _ _ (by decide)).trans (b1 83 (by decide))), z, (up1_ne _ _ (by decide)).trans ((b1 70 (by decide)).trans hz)⟩
    refine sw_room (rc := 0) (rs := 0) (a := 1) (b := 6) ?_
    show SW none m_L_distance (d + 20 + 1) 0 0 0 [some (.ref 0), some (.int x), some (.int y), some (.ref 82), none] [] (hp c) _
    refine sw_aload_n dL_distance_0 rfl ?_
    refine sw_iconst (v := 0) dL_distance_1 (by decide) ?_
    refine sw_aload_n dL_distance_2 rfl ?_
    refine sw_iload_n dL_distance_3 rfl ?_
    refine sw_iload_n dL_distance_4 rfl ?_
    refine sw_cV (M := m_L_distance) dL_distance_5 lv_L_20 m9 I.o rfl (by decide) rfl rfl rfl (Nat.le_of_ble_eq_true rfl) (fun _ _ => rfl) rfl ?_
    refine sw_i2l dL_distance_8 ?_
    refine sw_last (vs := [.long a]) dL_distance_9 (hp_is 82 102 e82 (by decide) (by decide)) (by decide) (by show 0 < 1; decide) ?_
    refine sw_goto (tgt := 17) dL_distance_10 (by decide) ?_
    refine sw_iconst (v := 0) dL_distance_17 (by decide) ?_
    exact sw_ret (v := some (.int 0)) dL_distance_18 rt_i ⟨rfl, hp_set (by decide) (by decide)⟩
  · obtain ⟨w, rfl⟩ := vt_int (Or.inl rfl) hv
    obtain ⟨z, hz⟩ := I.m
    obtain ⟨a, g82⟩ := g82
    by_cases h1 : e = 1
    · subst h1
      refine ⟨1, w, c, c2, MS.of (by decide +kernel) (Nat.le_of_ble_eq_true rfl) cw_L_distance ?_, m10, th, by decide, I2, ⟨a, (b2 82 (by decide)).trans g82, fun q => (by cases q)⟩, b2 83 (by decide), z, hz⟩
      show SW none m_L_distance (d + 20 + 1) (0 + 1) (0 + 6) 0 [some (.ref 0), some (.int x), some (.int y), some (.ref 82), none] [] (hp c) _
      refine sw_aload_n dL_distance_0 rfl ?_
      refine sw_iconst (v := 0) dL_distance_1 (by decide) ?_
      refine sw_aload_n dL_distance_2 rfl ?_
      refine sw_iload_n dL_distance_3 rfl ?_
      refine sw_iload_n dL_distance_4 rfl ?_
      refine sw_xV (M := m_L_distance) (rc := 0) (rs := 0) dL_distance_5 lv_L_20 m9 I.o rfl (by decide) rfl rfl rfl (Nat.le_of_ble_eq_true rfl) (fun _ _ => rfl) rfl ?_
      refine st_catch lc_L_distance_1 dL_distance_13 (by decide) rfl ?_
      refine sw_iconst (v := 1) dL_distance_15 (by decide) ?_
      exact sw_ret (v := some (.int 1)) dL_distance_16 rt_i ⟨rfl, rfl⟩
    · exact absurd (if_neg h1) hk
theorem h_onPath {x y u : Int32} (I : INV c) (g82 : ∃ a, c 82 = [.long a]) (g83 : ∃ a, c 83 = [.double a]) : HP m_L_onPath m_X10_onPath (d + 20) [.int x, .int y, .int u] (fun y => y.toInt64) c := by
  rcases p_onPath (d := d) (x := x) (y := y) (u := u) I with ⟨c1, v, m9, hv, b1, k⟩ | ⟨e, c2, v, m9, hv, m10, th, hk, I2, b2⟩
  · obtain ⟨w, rfl⟩ := vt_int (Or.inl rfl) hv
    obtain ⟨a, g82⟩ := g82
    have e82 : c1 82 = [.long a] := (b1 82 (by decide)).trans g82
    obtain ⟨c2, m10, th, I2, b2⟩ := k (up1 c1 82 [.long w.toInt64]) (fun i hi => up1_ne _ _ (by omega))
    obtain ⟨z, hz⟩ := I.m
    refine ⟨0, w, _, c2, MS.of (by decide +kernel) (Nat.le_of_ble_eq_true rfl) cw_L_onPath ?_, m10, th, by decide, I2, ⟨w.toInt64, (b2 82 (by decide)).trans (up1_same _ _ _), fun _ => rfl⟩, (b2 83 (by decide)).trans ((up1_ne _ _ (by decide)).trans (b1 83 (by decide))), z, (up1_ne _ _ (by decide)).trans ((b1 70 (by decide)).trans hz)⟩
    refine sw_room (rc := 0) (rs := 0) (a := 1) (b := 6) ?_
    show SW none m_L_onPath (d + 20 + 1) 0 0 0 [some (.ref 0), some (.int x), some (.int y), some (.int u), some (.ref 82), none] [] (hp c) _
    refine sw_aload dL_onPath_0 rfl ?_
    refine sw_iconst (v := 0) dL_onPath_2 (by decide) ?_
    refine sw_aload_n dL_onPath_3 rfl ?_
    refine sw_iload_n dL_onPath_4 rfl ?_
    refine sw_iload_n dL_onPath_5 rfl ?_
    refine sw_iload_n dL_onPath_6 rfl ?_
    refine sw_cV (M := m_L_onPath) dL_onPath_7 lv_L_23 m9 I.o rfl (by decide) rfl rfl rfl (Nat.le_of_ble_eq_true rfl) (fun _ _ => rfl) rfl ?_
    refine sw_i2l dL_onPath_10 ?_
    refine sw_last (vs := [.long a]) dL_onPath_11 (hp_is 82 102 e82 (by decide) (by decide)) (by decide) (by show 0 < 1; decide) ?_
    refine sw_goto (tgt := 23) dL_onPath_12 (by decide) ?_
    refine sw_iconst (v := 0) dL_onPath_23 (by decide) ?_
    exact sw_ret (v := some (.int 0)) dL_onPath_24 rt_i ⟨rfl, hp_set (by decide) (by decide)⟩
  · obtain ⟨w, rfl⟩ := vt_int (Or.inl rfl) hv
    obtain ⟨z, hz⟩ := I.m
    obtain ⟨a, g82⟩ := g82
    by_cases h1 : e = 1
    · subst h1
      refine ⟨1, w, c, c2, MS.of (by decide +kernel) (Nat.le_of_ble_eq_true rfl) cw_L_onPath ?_, m10, th, by decide, I2, ⟨a, (b2 82 (by decide)).trans g82, fun q => (by cases q)⟩, b2 83 (by decide), z, hz⟩
      show SW none m_L_onPath (d + 20 + 1) (0 + 1) (0 + 6) 0 [some (.ref 0), some (.int x), some (.int y), some (.int u), some (.ref 82), none] [] (hp c) _
      refine sw_aload dL_onPath_0 rfl ?_
      refine sw_iconst (v := 0) dL_onPath_2 (by decide) ?_
      refine sw_aload_n dL_onPath_3 rfl ?_
      refine sw_iload_n dL_onPath_4 rfl ?_
      refine sw_iload_n dL_onPath_5 rfl ?_
      refine sw_iload_n dL_onPath_6 rfl ?_
      refine sw_xV (M := m_L_onPath) (rc := 0) (rs := 0) dL_onPath_7 lv_L_23 m9 I.o rfl (by decide) rfl rfl rfl (Nat.le_of_ble_eq_true rfl) (fun _ _ => rfl) rfl ?_
      refine st_catch lc_L_onPath_1 dL_onPath_15 (by decide) rfl ?_
      refine sw_iconst (v := 1) dL_onPath_17 (by decide) ?_
      exact sw_ret (v := some (.int 1)) dL_onPath_18 rt_i ⟨rfl, rfl⟩
    · by_cases h2 : e = 4
      · subst h2
        refine ⟨2, w, c, c2, MS.of (by decide +kernel) (Nat.le_of_ble_eq_true rfl) cw_L_onPath ?_, m10, th, by decide, I2, ⟨a, (b2 82 (by decide)).trans g82, fun q => (by cases q)⟩, b2 83 (by decide), z, hz⟩
        show SW none m_L_onPath (d + 20 + 1) (0 + 1) (0 + 6) 0 [some (.ref 0), some (.int x), some (.int y), some (.int u), some (.ref 82), none] [] (hp c) _
        refine sw_aload dL_onPath_0 rfl ?_
        refine sw_iconst (v := 0) dL_onPath_2 (by decide) ?_
        refine sw_aload_n dL_onPath_3 rfl ?_
        refine sw_iload_n dL_onPath_4 rfl ?_
        refine sw_iload_n dL_onPath_5 rfl ?_
        refine sw_iload_n dL_onPath_6 rfl ?_
        refine sw_xV (M := m_L_onPath) (rc := 0) (rs := 0) dL_onPath_7 lv_L_23 m9 I.o rfl (by decide) rfl rfl rfl (Nat.le_of_ble_eq_true rfl) (fun _ _ => rfl) rfl ?_
        refine st_catch lc_L_onPath_4 dL_onPath_19 (by decide) rfl ?_
        refine sw_iconst (v := 2) dL_onPath_21 (by decide) ?_
        exact sw_ret (v := some (.int 2)) dL_onPath_22 rt_i ⟨rfl, rfl⟩
      · exact absurd ((if_neg h1).trans (if_neg h2)) hk
theorem h_median {x y u : Int32} (I : INV c) (g82 : ∃ a, c 82 = [.long a]) (g83 : ∃ a, c 83 = [.double a]) : HP m_L_median m_X10_median (d + 20) [.int x, .int y, .int u] (fun y => y.toInt64) c := by
  rcases p_median (d := d) (x := x) (y := y) (u := u) I with ⟨c1, v, m9, hv, b1, k⟩ | ⟨e, c2, v, m9, hv, m10, th, hk, I2, b2⟩
  · obtain ⟨w, rfl⟩ := vt_int (Or.inl rfl) hv
    obtain ⟨a, g82⟩ := g82
    have e82 : c1 82 = [.long a] := (b1 82 (by decide)).trans g82
    obtain ⟨c2, m10, th, I2, b2⟩ := k (up1 c1 82 [.long w.toInt64]) (fun i hi => up1_ne _ _ (by omega))
    obtain ⟨z, hz⟩ := I.m
    refine ⟨0, w, _, c2, MS.of (by decide +kernel) (Nat.le_of_ble_eq_true rfl) cw_L_median ?_, m10, th, by decide, I2, ⟨w.toInt64, (b2 82 (by decide)).trans (up1_same _ _ _), fun _ => rfl⟩, (b2 83 (by decide)).trans ((up1_ne _ _ (by decide)).trans (b1 83 (by decide))), z, (up1_ne _ _ (by decide)).trans ((b1 70 (by decide)).trans hz)⟩
    refine sw_room (rc := 0) (rs := 0) (a := 1) (b := 6) ?_
    show SW none m_L_median (d + 20 + 1) 0 0 0 [some (.ref 0), some (.int x), some (.int y), some (.int u), some (.ref 82), none] [] (hp c) _
    refine sw_aload dL_median_0 rfl ?_
    refine sw_iconst (v := 0) dL_median_2 (by decide) ?_
    refine sw_aload_n dL_median_3 rfl ?_
    refine sw_iload_n dL_median_4 rfl ?_
    refine sw_iload_n dL_median_5 rfl ?_
    refine sw_iload_n dL_median_6 rfl ?_
    refine sw_cV (M := m_L_median) dL_median_7 lv_L_29 m9 I.o rfl (by decide) rfl rfl rfl (Nat.le_of_ble_eq_true rfl) (fun _ _ => rfl) rfl ?_
    refine sw_i2l dL_median_10 ?_
    refine sw_last (vs := [.long a]) dL_median_11 (hp_is 82 102 e82 (by decide) (by decide)) (by decide) (by show 0 < 1; decide) ?_
    refine sw_goto (tgt := 23) dL_median_12 (by decide) ?_
    refine sw_iconst (v := 0) dL_median_23 (by decide) ?_
    exact sw_ret (v := some (.int 0)) dL_median_24 rt_i ⟨rfl, hp_set (by decide) (by decide)⟩
  · obtain ⟨w, rfl⟩ := vt_int (Or.inl rfl) hv
    obtain ⟨z, hz⟩ := I.m
    obtain ⟨a, g82⟩ := g82
    by_cases h1 : e = 1
    · subst h1
      refine ⟨1, w, c, c2, MS.of (by decide +kernel) (Nat.le_of_ble_eq_true rfl) cw_L_median ?_, m10, th, by decide, I2, ⟨a, (b2 82 (by decide)).trans g82, fun q => (by cases q)⟩, b2 83 (by decide), z, hz⟩
      show SW none m_L_median (d + 20 + 1) (0 + 1) (0 + 6) 0 [some (.ref 0), some (.int x), some (.int y), some (.int u), some (.ref 82), none] [] (hp c) _
      refine sw_aload dL_median_0 rfl ?_
      refine sw_iconst (v := 0) dL_median_2 (by decide) ?_
      refine sw_aload_n dL_median_3 rfl ?_
      refine sw_iload_n dL_median_4 rfl ?_
      refine sw_iload_n dL_median_5 rfl ?_
      refine sw_iload_n dL_median_6 rfl ?_
      refine sw_xV (M := m_L_median) (rc := 0) (rs := 0) dL_median_7 lv_L_29 m9 I.o rfl (by decide) rfl rfl rfl (Nat.le_of_ble_eq_true rfl) (fun _ _ => rfl) rfl ?_
      refine st_catch lc_L_median_1 dL_median_15 (by decide) rfl ?_
      refine sw_iconst (v := 1) dL_median_17 (by decide) ?_
      exact sw_ret (v := some (.int 1)) dL_median_18 rt_i ⟨rfl, rfl⟩
    · by_cases h2 : e = 4
      · subst h2
        refine ⟨2, w, c, c2, MS.of (by decide +kernel) (Nat.le_of_ble_eq_true rfl) cw_L_median ?_, m10, th, by decide, I2, ⟨a, (b2 82 (by decide)).trans g82, fun q => (by cases q)⟩, b2 83 (by decide), z, hz⟩
        show SW none m_L_median (d + 20 + 1) (0 + 1) (0 + 6) 0 [some (.ref 0), some (.int x), some (.int y), some (.int u), some (.ref 82), none] [] (hp c) _
        refine sw_aload dL_median_0 rfl ?_
        refine sw_iconst (v := 0) dL_median_2 (by decide) ?_
        refine sw_aload_n dL_median_3 rfl ?_
        refine sw_iload_n dL_median_4 rfl ?_
        refine sw_iload_n dL_median_5 rfl ?_
        refine sw_iload_n dL_median_6 rfl ?_
        refine sw_xV (M := m_L_median) (rc := 0) (rs := 0) dL_median_7 lv_L_29 m9 I.o rfl (by decide) rfl rfl rfl (Nat.le_of_ble_eq_true rfl) (fun _ _ => rfl) rfl ?_
        refine st_catch lc_L_median_4 dL_median_19 (by decide) rfl ?_
        refine sw_iconst (v := 2) dL_median_21 (by decide) ?_
        exact sw_ret (v := some (.int 2)) dL_median_22 rt_i ⟨rfl, rfl⟩
      · exact absurd ((if_neg h1).trans (if_neg h2)) hk
theorem h_meanDistance {x : Int32} (I : INV c) (g82 : ∃ a, c 82 = [.long a]) (g83 : ∃ a, c 83 = [.double a]) : HD m_L_meanDistance m_X10_meanDistance (d + 20) [.int x] c := by
  rcases p_meanDistance (d := d) (x := x) I with ⟨c1, v, m9, hv, b1, k⟩ | ⟨e, c2, v, m9, hv, m10, th, hk, I2, b2⟩
  · obtain ⟨w, rfl, hy⟩ := vt_dbl rfl hv
    obtain ⟨a, g83⟩ := g83
    have e83 : c1 83 = [.double a] := (b1 83 (by decide)).trans g83
    obtain ⟨c2, m10, th, I2, b2⟩ := k (up1 c1 83 [.double w]) (fun i hi => up1_ne _ _ (by omega))
    obtain ⟨z, hz⟩ := I.m
    refine ⟨0, w, _, c2, MS.of (by decide +kernel) (Nat.le_of_ble_eq_true rfl) cw_L_meanDistance ?_, m10, th, by decide, I2, ⟨w, (b2 83 (by decide)).trans (up1_same _ _ _), fun _ => rfl⟩, (b2 82 (by decide)).trans ((up1_ne _ _ (by decide)).trans (b1 82 (by decide))), z, (up1_ne _ _ (by decide)).trans ((b1 70 (by decide)).trans hz)⟩
    refine sw_room (rc := 0) (rs := 0) (a := 1) (b := 6) ?_
    show SW none m_L_meanDistance (d + 20 + 1) 0 0 0 [some (.ref 0), some (.int x), some (.ref 83), none] [] (hp c) _
    refine sw_aload_n dL_meanDistance_0 rfl ?_
    refine sw_iconst (v := 0) dL_meanDistance_1 (by decide) ?_
    refine sw_aload_n dL_meanDistance_2 rfl ?_
    refine sw_iload_n dL_meanDistance_3 rfl ?_
    refine sw_cV (M := m_L_meanDistance) dL_meanDistance_4 lv_L_32 m9 I.o rfl (by decide) rfl rfl rfl (Nat.le_of_ble_eq_true rfl) (fun _ _ => rfl) rfl ?_
    refine sw_dast (vs := [.double a]) dL_meanDistance_7 (hp_is 83 103 e83 (by decide) (by decide)) (by decide) (by show 0 < 1; decide) ?_
    refine sw_goto (tgt := 14) dL_meanDistance_8 (by decide) ?_
    refine sw_iconst (v := 0) dL_meanDistance_14 (by decide) ?_
    exact sw_ret (v := some (.int 0)) dL_meanDistance_15 rt_i ⟨rfl, hp_set (by decide) (by decide)⟩
  · obtain ⟨w, rfl, hy⟩ := vt_dbl rfl hv
    obtain ⟨z, hz⟩ := I.m
    obtain ⟨a, g83⟩ := g83
    by_cases h1 : e = 1
    · subst h1
      refine ⟨1, w, c, c2, MS.of (by decide +kernel) (Nat.le_of_ble_eq_true rfl) cw_L_meanDistance ?_, m10, th, by decide, I2, ⟨a, (b2 83 (by decide)).trans g83, fun q => (by cases q)⟩, b2 82 (by decide), z, hz⟩
      show SW none m_L_meanDistance (d + 20 + 1) (0 + 1) (0 + 6) 0 [some (.ref 0), some (.int x), some (.ref 83), none] [] (hp c) _
      refine sw_aload_n dL_meanDistance_0 rfl ?_
      refine sw_iconst (v := 0) dL_meanDistance_1 (by decide) ?_
      refine sw_aload_n dL_meanDistance_2 rfl ?_
      refine sw_iload_n dL_meanDistance_3 rfl ?_
      refine sw_xV (M := m_L_meanDistance) (rc := 0) (rs := 0) dL_meanDistance_4 lv_L_32 m9 I.o rfl (by decide) rfl rfl rfl (Nat.le_of_ble_eq_true rfl) (fun _ _ => rfl) rfl ?_
      refine st_catch_n lc_L_meanDistance_1 dL_meanDistance_11 (by decide) rfl ?_
      refine sw_iconst (v := 1) dL_meanDistance_12 (by decide) ?_
      exact sw_ret (v := some (.int 1)) dL_meanDistance_13 rt_i ⟨rfl, rfl⟩
    · exact absurd (if_neg h1) hk
theorem h_balance {x : Int32} (I : INV c) (g82 : ∃ a, c 82 = [.long a]) (g83 : ∃ a, c 83 = [.double a]) : HF_ m_L_balance m_X10_balance (d + 20) [.int x] c := by
  rcases p_balance (d := d) (x := x) I with ⟨c1, v, m9, hv, b1, k⟩ | ⟨e, c2, v, m9, hv, m10, th, hk, I2, b2⟩
  · obtain ⟨w, rfl, hy⟩ := vt_flt rfl hv
    obtain ⟨a, g83⟩ := g83
    have e83 : c1 83 = [.double a] := (b1 83 (by decide)).trans g83
    obtain ⟨c2, m10, th, I2, b2⟩ := k (up1 c1 83 [.double (FP.f2d w)]) (fun i hi => up1_ne _ _ (by omega))
    obtain ⟨z, hz⟩ := I.m
    refine ⟨0, w, _, c2, MS.of (by decide +kernel) (Nat.le_of_ble_eq_true rfl) cw_L_balance ?_, m10, th, by decide, I2, ⟨(FP.f2d w), (b2 83 (by decide)).trans (up1_same _ _ _), fun _ => rfl⟩, hy, (b2 82 (by decide)).trans ((up1_ne _ _ (by decide)).trans (b1 82 (by decide))), z, (up1_ne _ _ (by decide)).trans ((b1 70 (by decide)).trans hz)⟩
    refine sw_room (rc := 0) (rs := 0) (a := 1) (b := 6) ?_
    show SW none m_L_balance (d + 20 + 1) 0 0 0 [some (.ref 0), some (.int x), some (.ref 83), none] [] (hp c) _
    refine sw_aload_n dL_balance_0 rfl ?_
    refine sw_iconst (v := 0) dL_balance_1 (by decide) ?_
    refine sw_aload_n dL_balance_2 rfl ?_
    refine sw_iload_n dL_balance_3 rfl ?_
    refine sw_cV (M := m_L_balance) dL_balance_4 lv_L_36 m9 I.o rfl (by decide) rfl rfl rfl (Nat.le_of_ble_eq_true rfl) (fun _ _ => rfl) rfl ?_
    refine sw_f2d dL_balance_7 hy.1 ?_
    refine sw_dast (vs := [.double a]) dL_balance_8 (hp_is 83 103 e83 (by decide) (by decide)) (by decide) (by show 0 < 1; decide) ?_
    refine sw_goto (tgt := 15) dL_balance_9 (by decide) ?_
    refine sw_iconst (v := 0) dL_balance_15 (by decide) ?_
    exact sw_ret (v := some (.int 0)) dL_balance_16 rt_i ⟨rfl, hp_set (by decide) (by decide)⟩
  · obtain ⟨w, rfl, hy⟩ := vt_flt rfl hv
    obtain ⟨z, hz⟩ := I.m
    obtain ⟨a, g83⟩ := g83
    by_cases h1 : e = 1
    · subst h1
      refine ⟨1, w, c, c2, MS.of (by decide +kernel) (Nat.le_of_ble_eq_true rfl) cw_L_balance ?_, m10, th, by decide, I2, ⟨a, (b2 83 (by decide)).trans g83, fun q => (by cases q)⟩, hy, b2 82 (by decide), z, hz⟩
      show SW none m_L_balance (d + 20 + 1) (0 + 1) (0 + 6) 0 [some (.ref 0), some (.int x), some (.ref 83), none] [] (hp c) _
      refine sw_aload_n dL_balance_0 rfl ?_
      refine sw_iconst (v := 0) dL_balance_1 (by decide) ?_
      refine sw_aload_n dL_balance_2 rfl ?_
      refine sw_iload_n dL_balance_3 rfl ?_
      refine sw_xV (M := m_L_balance) (rc := 0) (rs := 0) dL_balance_4 lv_L_36 m9 I.o rfl (by decide) rfl rfl rfl (Nat.le_of_ble_eq_true rfl) (fun _ _ => rfl) rfl ?_
      refine st_catch_n lc_L_balance_1 dL_balance_12 (by decide) rfl ?_
      refine sw_iconst (v := 1) dL_balance_13 (by decide) ?_
      exact sw_ret (v := some (.int 1)) dL_balance_14 rt_i ⟨rfl, rfl⟩
    · exact absurd (if_neg h1) hk
theorem h_code {x : Int32} (I : INV c) (g82 : ∃ a, c 82 = [.long a]) (g83 : ∃ a, c 83 = [.double a]) : HP m_L_code m_X10_code (d + 20) [.int x] (fun y => y.toInt64) c := by
  rcases p_code (d := d) (x := x) I with ⟨c1, v, m9, hv, b1, k⟩ | ⟨e, c2, v, m9, hv, m10, th, hk, I2, b2⟩
  · obtain ⟨w, rfl⟩ := vt_int (Or.inl rfl) hv
    obtain ⟨a, g82⟩ := g82
    have e82 : c1 82 = [.long a] := (b1 82 (by decide)).trans g82
    obtain ⟨c2, m10, th, I2, b2⟩ := k (up1 c1 82 [.long w.toInt64]) (fun i hi => up1_ne _ _ (by omega))
    obtain ⟨z, hz⟩ := I.m
    refine ⟨0, w, _, c2, MS.of (by decide +kernel) (Nat.le_of_ble_eq_true rfl) cw_L_code ?_, m10, th, by decide, I2, ⟨w.toInt64, (b2 82 (by decide)).trans (up1_same _ _ _), fun _ => rfl⟩, (b2 83 (by decide)).trans ((up1_ne _ _ (by decide)).trans (b1 83 (by decide))), z, (up1_ne _ _ (by decide)).trans ((b1 70 (by decide)).trans hz)⟩
    refine sw_room (rc := 0) (rs := 0) (a := 1) (b := 6) ?_
    show SW none m_L_code (d + 20 + 1) 0 0 0 [some (.ref 0), some (.int x), some (.ref 82), none] [] (hp c) _
    refine sw_aload_n dL_code_0 rfl ?_
    refine sw_iconst (v := 0) dL_code_1 (by decide) ?_
    refine sw_aload_n dL_code_2 rfl ?_
    refine sw_iload_n dL_code_3 rfl ?_
    refine sw_cV (M := m_L_code) dL_code_4 lv_L_40 m9 I.o rfl (by decide) rfl rfl rfl (Nat.le_of_ble_eq_true rfl) (fun _ _ => rfl) rfl ?_
    refine sw_i2l dL_code_7 ?_
    refine sw_last (vs := [.long a]) dL_code_8 (hp_is 82 102 e82 (by decide) (by decide)) (by decide) (by show 0 < 1; decide) ?_
    refine sw_goto (tgt := 18) dL_code_9 (by decide) ?_
    refine sw_iconst (v := 0) dL_code_18 (by decide) ?_
    exact sw_ret (v := some (.int 0)) dL_code_19 rt_i ⟨rfl, hp_set (by decide) (by decide)⟩
  · obtain ⟨w, rfl⟩ := vt_int (Or.inl rfl) hv
    obtain ⟨z, hz⟩ := I.m
    obtain ⟨a, g82⟩ := g82
    by_cases h1 : e = 3
    · subst h1
      refine ⟨1, w, c, c2, MS.of (by decide +kernel) (Nat.le_of_ble_eq_true rfl) cw_L_code ?_, m10, th, by decide, I2, ⟨a, (b2 82 (by decide)).trans g82, fun q => (by cases q)⟩, b2 83 (by decide), z, hz⟩
      show SW none m_L_code (d + 20 + 1) (0 + 1) (0 + 6) 0 [some (.ref 0), some (.int x), some (.ref 82), none] [] (hp c) _
      refine sw_aload_n dL_code_0 rfl ?_
      refine sw_iconst (v := 0) dL_code_1 (by decide) ?_
      refine sw_aload_n dL_code_2 rfl ?_
      refine sw_iload_n dL_code_3 rfl ?_
      refine sw_xV (M := m_L_code) (rc := 0) (rs := 0) dL_code_4 lv_L_40 m9 I.o rfl (by decide) rfl rfl rfl (Nat.le_of_ble_eq_true rfl) (fun _ _ => rfl) rfl ?_
      refine st_catch_n lc_L_code_3 dL_code_12 (by decide) rfl ?_
      refine sw_iconst (v := 1) dL_code_13 (by decide) ?_
      exact sw_ret (v := some (.int 1)) dL_code_14 rt_i ⟨rfl, rfl⟩
    · by_cases h2 : e = 4
      · subst h2
        refine ⟨2, w, c, c2, MS.of (by decide +kernel) (Nat.le_of_ble_eq_true rfl) cw_L_code ?_, m10, th, by decide, I2, ⟨a, (b2 82 (by decide)).trans g82, fun q => (by cases q)⟩, b2 83 (by decide), z, hz⟩
        show SW none m_L_code (d + 20 + 1) (0 + 1) (0 + 6) 0 [some (.ref 0), some (.int x), some (.ref 82), none] [] (hp c) _
        refine sw_aload_n dL_code_0 rfl ?_
        refine sw_iconst (v := 0) dL_code_1 (by decide) ?_
        refine sw_aload_n dL_code_2 rfl ?_
        refine sw_iload_n dL_code_3 rfl ?_
        refine sw_xV (M := m_L_code) (rc := 0) (rs := 0) dL_code_4 lv_L_40 m9 I.o rfl (by decide) rfl rfl rfl (Nat.le_of_ble_eq_true rfl) (fun _ _ => rfl) rfl ?_
        refine st_catch_n lc_L_code_4 dL_code_15 (by decide) rfl ?_
        refine sw_iconst (v := 2) dL_code_16 (by decide) ?_
        exact sw_ret (v := some (.int 2)) dL_code_17 rt_i ⟨rfl, rfl⟩
      · exact absurd ((if_neg h1).trans (if_neg h2)) hk
theorem h_rank (I : INV c) (g82 : ∃ a, c 82 = [.long a]) (g83 : ∃ a, c 83 = [.double a]) : HP m_L_rank m_X10_rank (d + 20) [] (fun y => y.toInt64) c := by
  rcases p_rank (d := d)  I with ⟨c1, v, m9, hv, b1, k⟩ | ⟨e, c2, v, m9, hv, m10, th, hk, I2, b2⟩
  · obtain ⟨w, rfl⟩ := vt_int (Or.inl rfl) hv
    obtain ⟨a, g82⟩ := g82
    have e82 : c1 82 = [.long a] := (b1 82 (by decide)).trans g82
    obtain ⟨c2, m10, th, I2, b2⟩ := k (up1 c1 82 [.long w.toInt64]) (fun i hi => up1_ne _ _ (by omega))
    obtain ⟨z, hz⟩ := I.m
    refine ⟨0, w, _, c2, MS.of (by decide +kernel) (Nat.le_of_ble_eq_true rfl) cw_L_rank ?_, m10, th, by decide, I2, ⟨w.toInt64, (b2 82 (by decide)).trans (up1_same _ _ _), fun _ => rfl⟩, (b2 83 (by decide)).trans ((up1_ne _ _ (by decide)).trans (b1 83 (by decide))), z, (up1_ne _ _ (by decide)).trans ((b1 70 (by decide)).trans hz)⟩
    refine sw_room (rc := 0) (rs := 0) (a := 1) (b := 6) ?_
    show SW none m_L_rank (d + 20 + 1) 0 0 0 [some (.ref 0), some (.ref 82), none] [] (hp c) _
    refine sw_aload_n dL_rank_0 rfl ?_
    refine sw_iconst (v := 0) dL_rank_1 (by decide) ?_
    refine sw_aload_n dL_rank_2 rfl ?_
    refine sw_cV (M := m_L_rank) dL_rank_3 lv_L_46 m9 I.o rfl (by decide) rfl rfl rfl (Nat.le_of_ble_eq_true rfl) (fun _ _ => rfl) rfl ?_
    refine sw_i2l dL_rank_6 ?_
    refine sw_last (vs := [.long a]) dL_rank_7 (hp_is 82 102 e82 (by decide) (by decide)) (by decide) (by show 0 < 1; decide) ?_
    refine sw_goto (tgt := 14) dL_rank_8 (by decide) ?_
    refine sw_iconst (v := 0) dL_rank_14 (by decide) ?_
    exact sw_ret (v := some (.int 0)) dL_rank_15 rt_i ⟨rfl, hp_set (by decide) (by decide)⟩
  · obtain ⟨w, rfl⟩ := vt_int (Or.inl rfl) hv
    obtain ⟨z, hz⟩ := I.m
    obtain ⟨a, g82⟩ := g82
    by_cases h1 : e = 3
    · subst h1
      refine ⟨1, w, c, c2, MS.of (by decide +kernel) (Nat.le_of_ble_eq_true rfl) cw_L_rank ?_, m10, th, by decide, I2, ⟨a, (b2 82 (by decide)).trans g82, fun q => (by cases q)⟩, b2 83 (by decide), z, hz⟩
      show SW none m_L_rank (d + 20 + 1) (0 + 1) (0 + 6) 0 [some (.ref 0), some (.ref 82), none] [] (hp c) _
      refine sw_aload_n dL_rank_0 rfl ?_
      refine sw_iconst (v := 0) dL_rank_1 (by decide) ?_
      refine sw_aload_n dL_rank_2 rfl ?_
      refine sw_xV (M := m_L_rank) (rc := 0) (rs := 0) dL_rank_3 lv_L_46 m9 I.o rfl (by decide) rfl rfl rfl (Nat.le_of_ble_eq_true rfl) (fun _ _ => rfl) rfl ?_
      refine st_catch_n lc_L_rank_3 dL_rank_11 (by decide) rfl ?_
      refine sw_iconst (v := 1) dL_rank_12 (by decide) ?_
      exact sw_ret (v := some (.int 1)) dL_rank_13 rt_i ⟨rfl, rfl⟩
    · exact absurd (if_neg h1) hk
theorem h_sameDegrees (I : INV c) (g82 : ∃ a, c 82 = [.long a]) (g83 : ∃ a, c 83 = [.double a]) : HP m_L_sameDegrees m_X10_sameDegrees (d + 20) [] (fun y => y.toInt64) c := by
  rcases p_sameDegrees (d := d)  I with ⟨c1, v, m9, hv, b1, k⟩ | ⟨e, c2, v, m9, hv, m10, th, hk, I2, b2⟩
  · obtain ⟨w, rfl⟩ := vt_int (Or.inl rfl) hv
    obtain ⟨a, g82⟩ := g82
    have e82 : c1 82 = [.long a] := (b1 82 (by decide)).trans g82
    obtain ⟨c2, m10, th, I2, b2⟩ := k (up1 c1 82 [.long w.toInt64]) (fun i hi => up1_ne _ _ (by omega))
    obtain ⟨z, hz⟩ := I.m
    refine ⟨0, w, _, c2, MS.of (by decide +kernel) (Nat.le_of_ble_eq_true rfl) cw_L_sameDegrees ?_, m10, th, by decide, I2, ⟨w.toInt64, (b2 82 (by decide)).trans (up1_same _ _ _), fun _ => rfl⟩, (b2 83 (by decide)).trans ((up1_ne _ _ (by decide)).trans (b1 83 (by decide))), z, (up1_ne _ _ (by decide)).trans ((b1 70 (by decide)).trans hz)⟩
    refine sw_room (rc := 0) (rs := 0) (a := 1) (b := 6) ?_
    show SW none m_L_sameDegrees (d + 20 + 1) 0 0 0 [some (.ref 0), some (.ref 82), none] [] (hp c) _
    refine sw_aload_n dL_sameDegrees_0 rfl ?_
    refine sw_iconst (v := 0) dL_sameDegrees_1 (by decide) ?_
    refine sw_aload_n dL_sameDegrees_2 rfl ?_
    refine sw_cV (M := m_L_sameDegrees) dL_sameDegrees_3 lv_L_50 m9 I.o rfl (by decide) rfl rfl rfl (Nat.le_of_ble_eq_true rfl) (fun _ _ => rfl) rfl ?_
    refine sw_i2l dL_sameDegrees_6 ?_
    refine sw_last (vs := [.long a]) dL_sameDegrees_7 (hp_is 82 102 e82 (by decide) (by decide)) (by decide) (by show 0 < 1; decide) ?_
    refine sw_goto (tgt := 14) dL_sameDegrees_8 (by decide) ?_
    refine sw_iconst (v := 0) dL_sameDegrees_14 (by decide) ?_
    exact sw_ret (v := some (.int 0)) dL_sameDegrees_15 rt_i ⟨rfl, hp_set (by decide) (by decide)⟩
  · obtain ⟨w, rfl⟩ := vt_int (Or.inl rfl) hv
    obtain ⟨z, hz⟩ := I.m
    obtain ⟨a, g82⟩ := g82
    by_cases h1 : e = 3
    · subst h1
      refine ⟨1, w, c, c2, MS.of (by decide +kernel) (Nat.le_of_ble_eq_true rfl) cw_L_sameDegrees ?_, m10, th, by decide, I2, ⟨a, (b2 82 (by decide)).trans g82, fun q => (by cases q)⟩, b2 83 (by decide), z, hz⟩
      show SW none m_L_sameDegrees (d + 20 + 1) (0 + 1) (0 + 6) 0 [some (.ref 0), some (.ref 82), none] [] (hp c) _
      refine sw_aload_n dL_sameDegrees_0 rfl ?_
      refine sw_iconst (v := 0) dL_sameDegrees_1 (by decide) ?_
      refine sw_aload_n dL_sameDegrees_2 rfl ?_
      refine sw_xV (M := m_L_sameDegrees) (rc := 0) (rs := 0) dL_sameDegrees_3 lv_L_50 m9 I.o rfl (by decide) rfl rfl rfl (Nat.le_of_ble_eq_true rfl) (fun _ _ => rfl) rfl ?_
      refine st_catch_n lc_L_sameDegrees_3 dL_sameDegrees_11 (by decide) rfl ?_
      refine sw_iconst (v := 1) dL_sameDegrees_12 (by decide) ?_
      exact sw_ret (v := some (.int 1)) dL_sameDegrees_13 rt_i ⟨rfl, rfl⟩
    · exact absurd (if_neg h1) hk
theorem h_writeWord {x : Int32} (I : INV c) (g82 : ∃ a, c 82 = [.long a]) (g83 : ∃ a, c 83 = [.double a]) : HP m_L_writeWord m_X10_writeWord (d + 20) [.int x] (fun y => y.toInt64) c := by
  rcases p_writeWord (d := d) (x := x) I with ⟨c1, v, m9, hv, b1, k⟩ | ⟨e, c2, v, m9, hv, m10, th, hk, I2, b2⟩
  · obtain ⟨w, rfl⟩ := vt_int (Or.inl rfl) hv
    obtain ⟨a, g82⟩ := g82
    have e82 : c1 82 = [.long a] := (b1 82 (by decide)).trans g82
    obtain ⟨c2, m10, th, I2, b2⟩ := k (up1 c1 82 [.long w.toInt64]) (fun i hi => up1_ne _ _ (by omega))
    obtain ⟨z, hz⟩ := I.m
    refine ⟨0, w, _, c2, MS.of (by decide +kernel) (Nat.le_of_ble_eq_true rfl) cw_L_writeWord ?_, m10, th, by decide, I2, ⟨w.toInt64, (b2 82 (by decide)).trans (up1_same _ _ _), fun _ => rfl⟩, (b2 83 (by decide)).trans ((up1_ne _ _ (by decide)).trans (b1 83 (by decide))), z, (up1_ne _ _ (by decide)).trans ((b1 70 (by decide)).trans hz)⟩
    refine sw_room (rc := 0) (rs := 0) (a := 1) (b := 6) ?_
    show SW none m_L_writeWord (d + 20 + 1) 0 0 0 [some (.ref 0), some (.int x), some (.ref 82), none] [] (hp c) _
    refine sw_aload_n dL_writeWord_0 rfl ?_
    refine sw_iconst (v := 0) dL_writeWord_1 (by decide) ?_
    refine sw_aload_n dL_writeWord_2 rfl ?_
    refine sw_iload_n dL_writeWord_3 rfl ?_
    refine sw_cV (M := m_L_writeWord) dL_writeWord_4 lv_L_53 m9 I.o rfl (by decide) rfl rfl rfl (Nat.le_of_ble_eq_true rfl) (fun _ _ => rfl) rfl ?_
    refine sw_i2l dL_writeWord_7 ?_
    refine sw_last (vs := [.long a]) dL_writeWord_8 (hp_is 82 102 e82 (by decide) (by decide)) (by decide) (by show 0 < 1; decide) ?_
    refine sw_goto (tgt := 15) dL_writeWord_9 (by decide) ?_
    refine sw_iconst (v := 0) dL_writeWord_15 (by decide) ?_
    exact sw_ret (v := some (.int 0)) dL_writeWord_16 rt_i ⟨rfl, hp_set (by decide) (by decide)⟩
  · obtain ⟨w, rfl⟩ := vt_int (Or.inl rfl) hv
    obtain ⟨z, hz⟩ := I.m
    obtain ⟨a, g82⟩ := g82
    by_cases h1 : e = 1
    · subst h1
      refine ⟨1, w, c, c2, MS.of (by decide +kernel) (Nat.le_of_ble_eq_true rfl) cw_L_writeWord ?_, m10, th, by decide, I2, ⟨a, (b2 82 (by decide)).trans g82, fun q => (by cases q)⟩, b2 83 (by decide), z, hz⟩
      show SW none m_L_writeWord (d + 20 + 1) (0 + 1) (0 + 6) 0 [some (.ref 0), some (.int x), some (.ref 82), none] [] (hp c) _
      refine sw_aload_n dL_writeWord_0 rfl ?_
      refine sw_iconst (v := 0) dL_writeWord_1 (by decide) ?_
      refine sw_aload_n dL_writeWord_2 rfl ?_
      refine sw_iload_n dL_writeWord_3 rfl ?_
      refine sw_xV (M := m_L_writeWord) (rc := 0) (rs := 0) dL_writeWord_4 lv_L_53 m9 I.o rfl (by decide) rfl rfl rfl (Nat.le_of_ble_eq_true rfl) (fun _ _ => rfl) rfl ?_
      refine st_catch_n lc_L_writeWord_1 dL_writeWord_12 (by decide) rfl ?_
      refine sw_iconst (v := 1) dL_writeWord_13 (by decide) ?_
      exact sw_ret (v := some (.int 1)) dL_writeWord_14 rt_i ⟨rfl, rfl⟩
    · exact absurd (if_neg h1) hk
theorem h_outputByte {x : Int32} (I : INV c) (g82 : ∃ a, c 82 = [.long a]) (g83 : ∃ a, c 83 = [.double a]) : HP m_L_outputByte m_X10_outputByte (d + 20) [.int x] (fun y => y.toInt64) c := by
  rcases p_outputByte (d := d) (x := x) I with ⟨c1, v, m9, hv, b1, k⟩ | ⟨e, c2, v, m9, hv, m10, th, hk, I2, b2⟩
  · obtain ⟨w, rfl⟩ := vt_int (Or.inl rfl) hv
    obtain ⟨a, g82⟩ := g82
    have e82 : c1 82 = [.long a] := (b1 82 (by decide)).trans g82
    obtain ⟨c2, m10, th, I2, b2⟩ := k (up1 c1 82 [.long w.toInt64]) (fun i hi => up1_ne _ _ (by omega))
    obtain ⟨z, hz⟩ := I.m
    refine ⟨0, w, _, c2, MS.of (by decide +kernel) (Nat.le_of_ble_eq_true rfl) cw_L_outputByte ?_, m10, th, by decide, I2, ⟨w.toInt64, (b2 82 (by decide)).trans (up1_same _ _ _), fun _ => rfl⟩, (b2 83 (by decide)).trans ((up1_ne _ _ (by decide)).trans (b1 83 (by decide))), z, (up1_ne _ _ (by decide)).trans ((b1 70 (by decide)).trans hz)⟩
    refine sw_room (rc := 0) (rs := 0) (a := 1) (b := 6) ?_
    show SW none m_L_outputByte (d + 20 + 1) 0 0 0 [some (.ref 0), some (.int x), some (.ref 82), none] [] (hp c) _
    refine sw_aload_n dL_outputByte_0 rfl ?_
    refine sw_iconst (v := 0) dL_outputByte_1 (by decide) ?_
    refine sw_aload_n dL_outputByte_2 rfl ?_
    refine sw_iload_n dL_outputByte_3 rfl ?_
    refine sw_cV (M := m_L_outputByte) dL_outputByte_4 lv_L_56 m9 I.o rfl (by decide) rfl rfl rfl (Nat.le_of_ble_eq_true rfl) (fun _ _ => rfl) rfl ?_
    refine sw_i2l dL_outputByte_7 ?_
    refine sw_last (vs := [.long a]) dL_outputByte_8 (hp_is 82 102 e82 (by decide) (by decide)) (by decide) (by show 0 < 1; decide) ?_
    refine sw_goto (tgt := 15) dL_outputByte_9 (by decide) ?_
    refine sw_iconst (v := 0) dL_outputByte_15 (by decide) ?_
    exact sw_ret (v := some (.int 0)) dL_outputByte_16 rt_i ⟨rfl, hp_set (by decide) (by decide)⟩
  · obtain ⟨w, rfl⟩ := vt_int (Or.inl rfl) hv
    obtain ⟨z, hz⟩ := I.m
    obtain ⟨a, g82⟩ := g82
    by_cases h1 : e = 4
    · subst h1
      refine ⟨1, w, c, c2, MS.of (by decide +kernel) (Nat.le_of_ble_eq_true rfl) cw_L_outputByte ?_, m10, th, by decide, I2, ⟨a, (b2 82 (by decide)).trans g82, fun q => (by cases q)⟩, b2 83 (by decide), z, hz⟩
      show SW none m_L_outputByte (d + 20 + 1) (0 + 1) (0 + 6) 0 [some (.ref 0), some (.int x), some (.ref 82), none] [] (hp c) _
      refine sw_aload_n dL_outputByte_0 rfl ?_
      refine sw_iconst (v := 0) dL_outputByte_1 (by decide) ?_
      refine sw_aload_n dL_outputByte_2 rfl ?_
      refine sw_iload_n dL_outputByte_3 rfl ?_
      refine sw_xV (M := m_L_outputByte) (rc := 0) (rs := 0) dL_outputByte_4 lv_L_56 m9 I.o rfl (by decide) rfl rfl rfl (Nat.le_of_ble_eq_true rfl) (fun _ _ => rfl) rfl ?_
      refine st_catch_n lc_L_outputByte_4 dL_outputByte_12 (by decide) rfl ?_
      refine sw_iconst (v := 1) dL_outputByte_13 (by decide) ?_
      exact sw_ret (v := some (.int 1)) dL_outputByte_14 rt_i ⟨rfl, rfl⟩
    · exact absurd (if_neg h1) hk
theorem h_symmetries {x : Int32} (I : INV c) (g82 : ∃ a, c 82 = [.long a]) (g83 : ∃ a, c 83 = [.double a]) : HP m_L_symmetries m_X10_symmetries (d + 20) [.int x] (fun y => y.toInt64) c := by
  rcases p_symmetries (d := d) (x := x) I with ⟨c1, v, m9, hv, b1, k⟩ | ⟨e, c2, v, m9, hv, m10, th, hk, I2, b2⟩
  · obtain ⟨w, rfl⟩ := vt_int (Or.inl rfl) hv
    obtain ⟨a, g82⟩ := g82
    have e82 : c1 82 = [.long a] := (b1 82 (by decide)).trans g82
    obtain ⟨c2, m10, th, I2, b2⟩ := k (up1 c1 82 [.long w.toInt64]) (fun i hi => up1_ne _ _ (by omega))
    obtain ⟨z, hz⟩ := I.m
    refine ⟨0, w, _, c2, MS.of (by decide +kernel) (Nat.le_of_ble_eq_true rfl) cw_L_symmetries ?_, m10, th, by decide, I2, ⟨w.toInt64, (b2 82 (by decide)).trans (up1_same _ _ _), fun _ => rfl⟩, (b2 83 (by decide)).trans ((up1_ne _ _ (by decide)).trans (b1 83 (by decide))), z, (up1_ne _ _ (by decide)).trans ((b1 70 (by decide)).trans hz)⟩
    refine sw_room (rc := 0) (rs := 0) (a := 1) (b := 6) ?_
    show SW none m_L_symmetries (d + 20 + 1) 0 0 0 [some (.ref 0), some (.int x), some (.ref 82), none] [] (hp c) _
    refine sw_aload_n dL_symmetries_0 rfl ?_
    refine sw_iconst (v := 0) dL_symmetries_1 (by decide) ?_
    refine sw_aload_n dL_symmetries_2 rfl ?_
    refine sw_iload_n dL_symmetries_3 rfl ?_
    refine sw_cV (M := m_L_symmetries) dL_symmetries_4 lv_L_59 m9 I.o rfl (by decide) rfl rfl rfl (Nat.le_of_ble_eq_true rfl) (fun _ _ => rfl) rfl ?_
    refine sw_i2l dL_symmetries_7 ?_
    refine sw_last (vs := [.long a]) dL_symmetries_8 (hp_is 82 102 e82 (by decide) (by decide)) (by decide) (by show 0 < 1; decide) ?_
    refine sw_goto (tgt := 15) dL_symmetries_9 (by decide) ?_
    refine sw_iconst (v := 0) dL_symmetries_15 (by decide) ?_
    exact sw_ret (v := some (.int 0)) dL_symmetries_16 rt_i ⟨rfl, hp_set (by decide) (by decide)⟩
  · obtain ⟨w, rfl⟩ := vt_int (Or.inl rfl) hv
    obtain ⟨z, hz⟩ := I.m
    obtain ⟨a, g82⟩ := g82
    by_cases h1 : e = 1
    · subst h1
      refine ⟨1, w, c, c2, MS.of (by decide +kernel) (Nat.le_of_ble_eq_true rfl) cw_L_symmetries ?_, m10, th, by decide, I2, ⟨a, (b2 82 (by decide)).trans g82, fun q => (by cases q)⟩, b2 83 (by decide), z, hz⟩
      show SW none m_L_symmetries (d + 20 + 1) (0 + 1) (0 + 6) 0 [some (.ref 0), some (.int x), some (.ref 82), none] [] (hp c) _
      refine sw_aload_n dL_symmetries_0 rfl ?_
      refine sw_iconst (v := 0) dL_symmetries_1 (by decide) ?_
      refine sw_aload_n dL_symmetries_2 rfl ?_
      refine sw_iload_n dL_symmetries_3 rfl ?_
      refine sw_xV (M := m_L_symmetries) (rc := 0) (rs := 0) dL_symmetries_4 lv_L_59 m9 I.o rfl (by decide) rfl rfl rfl (Nat.le_of_ble_eq_true rfl) (fun _ _ => rfl) rfl ?_
      refine st_catch_n lc_L_symmetries_1 dL_symmetries_12 (by decide) rfl ?_
      refine sw_iconst (v := 1) dL_symmetries_13 (by decide) ?_
      exact sw_ret (v := some (.int 1)) dL_symmetries_14 rt_i ⟨rfl, rfl⟩
    · exact absurd (if_neg h1) hk
theorem h_labellings {x : Int32} (I : INV c) (g82 : ∃ a, c 82 = [.long a]) (g83 : ∃ a, c 83 = [.double a]) : HP m_L_labellings m_X10_labellings (d + 20) [.int x] (fun y => y.toInt64) c := by
  rcases p_labellings (d := d) (x := x) I with ⟨c1, v, m9, hv, b1, k⟩ | ⟨e, c2, v, m9, hv, m10, th, hk, I2, b2⟩
  · obtain ⟨w, rfl⟩ := vt_int (Or.inl rfl) hv
    obtain ⟨a, g82⟩ := g82
    have e82 : c1 82 = [.long a] := (b1 82 (by decide)).trans g82
    obtain ⟨c2, m10, th, I2, b2⟩ := k (up1 c1 82 [.long w.toInt64]) (fun i hi => up1_ne _ _ (by omega))
    obtain ⟨z, hz⟩ := I.m
    refine ⟨0, w, _, c2, MS.of (by decide +kernel) (Nat.le_of_ble_eq_true rfl) cw_L_labellings ?_, m10, th, by decide, I2, ⟨w.toInt64, (b2 82 (by decide)).trans (up1_same _ _ _), fun _ => rfl⟩, (b2 83 (by decide)).trans ((up1_ne _ _ (by decide)).trans (b1 83 (by decide))), z, (up1_ne _ _ (by decide)).trans ((b1 70 (by decide)).trans hz)⟩
    refine sw_room (rc := 0) (rs := 0) (a := 1) (b := 6) ?_
    show SW none m_L_labellings (d + 20 + 1) 0 0 0 [some (.ref 0), some (.int x), some (.ref 82), none] [] (hp c) _
    refine sw_aload_n dL_labellings_0 rfl ?_
    refine sw_iconst (v := 0) dL_labellings_1 (by decide) ?_
    refine sw_aload_n dL_labellings_2 rfl ?_
    refine sw_iload_n dL_labellings_3 rfl ?_
    refine sw_cV (M := m_L_labellings) dL_labellings_4 lv_L_62 m9 I.o rfl (by decide) rfl rfl rfl (Nat.le_of_ble_eq_true rfl) (fun _ _ => rfl) rfl ?_
    refine sw_i2l dL_labellings_7 ?_
    refine sw_last (vs := [.long a]) dL_labellings_8 (hp_is 82 102 e82 (by decide) (by decide)) (by decide) (by show 0 < 1; decide) ?_
    refine sw_goto (tgt := 15) dL_labellings_9 (by decide) ?_
    refine sw_iconst (v := 0) dL_labellings_15 (by decide) ?_
    exact sw_ret (v := some (.int 0)) dL_labellings_16 rt_i ⟨rfl, hp_set (by decide) (by decide)⟩
  · obtain ⟨w, rfl⟩ := vt_int (Or.inl rfl) hv
    obtain ⟨z, hz⟩ := I.m
    obtain ⟨a, g82⟩ := g82
    by_cases h1 : e = 1
    · subst h1
      refine ⟨1, w, c, c2, MS.of (by decide +kernel) (Nat.le_of_ble_eq_true rfl) cw_L_labellings ?_, m10, th, by decide, I2, ⟨a, (b2 82 (by decide)).trans g82, fun q => (by cases q)⟩, b2 83 (by decide), z, hz⟩
      show SW none m_L_labellings (d + 20 + 1) (0 + 1) (0 + 6) 0 [some (.ref 0), some (.int x), some (.ref 82), none] [] (hp c) _
      refine sw_aload_n dL_labellings_0 rfl ?_
      refine sw_iconst (v := 0) dL_labellings_1 (by decide) ?_
      refine sw_aload_n dL_labellings_2 rfl ?_
      refine sw_iload_n dL_labellings_3 rfl ?_
      refine sw_xV (M := m_L_labellings) (rc := 0) (rs := 0) dL_labellings_4 lv_L_62 m9 I.o rfl (by decide) rfl rfl rfl (Nat.le_of_ble_eq_true rfl) (fun _ _ => rfl) rfl ?_
      refine st_catch_n lc_L_labellings_1 dL_labellings_12 (by decide) rfl ?_
      refine sw_iconst (v := 1) dL_labellings_13 (by decide) ?_
      exact sw_ret (v := some (.int 1)) dL_labellings_14 rt_i ⟨rfl, rfl⟩
    · exact absurd (if_neg h1) hk
theorem h_withLeaves {x y : Int32} (I : INV c) (g82 : ∃ a, c 82 = [.long a]) (g83 : ∃ a, c 83 = [.double a]) : HP m_L_withLeaves m_X10_withLeaves (d + 20) [.int x, .int y] (fun y => y.toInt64) c := by
  rcases p_withLeaves (d := d) (x := x) (y := y) I with ⟨c1, v, m9, hv, b1, k⟩ | ⟨e, c2, v, m9, hv, m10, th, hk, I2, b2⟩
  · obtain ⟨w, rfl⟩ := vt_int (Or.inl rfl) hv
    obtain ⟨a, g82⟩ := g82
    have e82 : c1 82 = [.long a] := (b1 82 (by decide)).trans g82
    obtain ⟨c2, m10, th, I2, b2⟩ := k (up1 c1 82 [.long w.toInt64]) (fun i hi => up1_ne _ _ (by omega))
    obtain ⟨z, hz⟩ := I.m
    refine ⟨0, w, _, c2, MS.of (by decide +kernel) (Nat.le_of_ble_eq_true rfl) cw_L_withLeaves ?_, m10, th, by decide, I2, ⟨w.toInt64, (b2 82 (by decide)).trans (up1_same _ _ _), fun _ => rfl⟩, (b2 83 (by decide)).trans ((up1_ne _ _ (by decide)).trans (b1 83 (by decide))), z, (up1_ne _ _ (by decide)).trans ((b1 70 (by decide)).trans hz)⟩
    refine sw_room (rc := 0) (rs := 0) (a := 1) (b := 6) ?_
    show SW none m_L_withLeaves (d + 20 + 1) 0 0 0 [some (.ref 0), some (.int x), some (.int y), some (.ref 82), none] [] (hp c) _
    refine sw_aload_n dL_withLeaves_0 rfl ?_
    refine sw_iconst (v := 0) dL_withLeaves_1 (by decide) ?_
    refine sw_aload_n dL_withLeaves_2 rfl ?_
    refine sw_iload_n dL_withLeaves_3 rfl ?_
    refine sw_iload_n dL_withLeaves_4 rfl ?_
    refine sw_cV (M := m_L_withLeaves) dL_withLeaves_5 lv_L_65 m9 I.o rfl (by decide) rfl rfl rfl (Nat.le_of_ble_eq_true rfl) (fun _ _ => rfl) rfl ?_
    refine sw_i2l dL_withLeaves_8 ?_
    refine sw_last (vs := [.long a]) dL_withLeaves_9 (hp_is 82 102 e82 (by decide) (by decide)) (by decide) (by show 0 < 1; decide) ?_
    refine sw_goto (tgt := 17) dL_withLeaves_10 (by decide) ?_
    refine sw_iconst (v := 0) dL_withLeaves_17 (by decide) ?_
    exact sw_ret (v := some (.int 0)) dL_withLeaves_18 rt_i ⟨rfl, hp_set (by decide) (by decide)⟩
  · obtain ⟨w, rfl⟩ := vt_int (Or.inl rfl) hv
    obtain ⟨z, hz⟩ := I.m
    obtain ⟨a, g82⟩ := g82
    by_cases h1 : e = 2
    · subst h1
      refine ⟨1, w, c, c2, MS.of (by decide +kernel) (Nat.le_of_ble_eq_true rfl) cw_L_withLeaves ?_, m10, th, by decide, I2, ⟨a, (b2 82 (by decide)).trans g82, fun q => (by cases q)⟩, b2 83 (by decide), z, hz⟩
      show SW none m_L_withLeaves (d + 20 + 1) (0 + 1) (0 + 6) 0 [some (.ref 0), some (.int x), some (.int y), some (.ref 82), none] [] (hp c) _
      refine sw_aload_n dL_withLeaves_0 rfl ?_
      refine sw_iconst (v := 0) dL_withLeaves_1 (by decide) ?_
      refine sw_aload_n dL_withLeaves_2 rfl ?_
      refine sw_iload_n dL_withLeaves_3 rfl ?_
      refine sw_iload_n dL_withLeaves_4 rfl ?_
      refine sw_xV (M := m_L_withLeaves) (rc := 0) (rs := 0) dL_withLeaves_5 lv_L_65 m9 I.o rfl (by decide) rfl rfl rfl (Nat.le_of_ble_eq_true rfl) (fun _ _ => rfl) rfl ?_
      refine st_catch lc_L_withLeaves_2 dL_withLeaves_13 (by decide) rfl ?_
      refine sw_iconst (v := 1) dL_withLeaves_15 (by decide) ?_
      exact sw_ret (v := some (.int 1)) dL_withLeaves_16 rt_i ⟨rfl, rfl⟩
    · exact absurd (if_neg h1) hk
theorem h_classes {x y : Int32} (I : INV c) (g82 : ∃ a, c 82 = [.long a]) (g83 : ∃ a, c 83 = [.double a]) : HP m_L_classes m_X10_classes (d + 20) [.int x, .int y] (fun y => y.toInt64) c := by
  rcases p_classes (d := d) (x := x) (y := y) I with ⟨c1, v, m9, hv, b1, k⟩ | ⟨e, c2, v, m9, hv, m10, th, hk, I2, b2⟩
  · obtain ⟨w, rfl⟩ := vt_int (Or.inl rfl) hv
    obtain ⟨a, g82⟩ := g82
    have e82 : c1 82 = [.long a] := (b1 82 (by decide)).trans g82
    obtain ⟨c2, m10, th, I2, b2⟩ := k (up1 c1 82 [.long w.toInt64]) (fun i hi => up1_ne _ _ (by omega))
    obtain ⟨z, hz⟩ := I.m
    refine ⟨0, w, _, c2, MS.of (by decide +kernel) (Nat.le_of_ble_eq_true rfl) cw_L_classes ?_, m10, th, by decide, I2, ⟨w.toInt64, (b2 82 (by decide)).trans (up1_same _ _ _), fun _ => rfl⟩, (b2 83 (by decide)).trans ((up1_ne _ _ (by decide)).trans (b1 83 (by decide))), z, (up1_ne _ _ (by decide)).trans ((b1 70 (by decide)).trans hz)⟩
    refine sw_room (rc := 0) (rs := 0) (a := 1) (b := 6) ?_
    show SW none m_L_classes (d + 20 + 1) 0 0 0 [some (.ref 0), some (.int x), some (.int y), some (.ref 82), none] [] (hp c) _
    refine sw_aload_n dL_classes_0 rfl ?_
    refine sw_iconst (v := 0) dL_classes_1 (by decide) ?_
    refine sw_aload_n dL_classes_2 rfl ?_
    refine sw_iload_n dL_classes_3 rfl ?_
    refine sw_iload_n dL_classes_4 rfl ?_
    refine sw_cV (M := m_L_classes) dL_classes_5 lv_L_68 m9 I.o rfl (by decide) rfl rfl rfl (Nat.le_of_ble_eq_true rfl) (fun _ _ => rfl) rfl ?_
    refine sw_i2l dL_classes_8 ?_
    refine sw_last (vs := [.long a]) dL_classes_9 (hp_is 82 102 e82 (by decide) (by decide)) (by decide) (by show 0 < 1; decide) ?_
    refine sw_goto (tgt := 17) dL_classes_10 (by decide) ?_
    refine sw_iconst (v := 0) dL_classes_17 (by decide) ?_
    exact sw_ret (v := some (.int 0)) dL_classes_18 rt_i ⟨rfl, hp_set (by decide) (by decide)⟩
  · obtain ⟨w, rfl⟩ := vt_int (Or.inl rfl) hv
    obtain ⟨z, hz⟩ := I.m
    obtain ⟨a, g82⟩ := g82
    by_cases h1 : e = 2
    · subst h1
      refine ⟨1, w, c, c2, MS.of (by decide +kernel) (Nat.le_of_ble_eq_true rfl) cw_L_classes ?_, m10, th, by decide, I2, ⟨a, (b2 82 (by decide)).trans g82, fun q => (by cases q)⟩, b2 83 (by decide), z, hz⟩
      show SW none m_L_classes (d + 20 + 1) (0 + 1) (0 + 6) 0 [some (.ref 0), some (.int x), some (.int y), some (.ref 82), none] [] (hp c) _
      refine sw_aload_n dL_classes_0 rfl ?_
      refine sw_iconst (v := 0) dL_classes_1 (by decide) ?_
      refine sw_aload_n dL_classes_2 rfl ?_
      refine sw_iload_n dL_classes_3 rfl ?_
      refine sw_iload_n dL_classes_4 rfl ?_
      refine sw_xV (M := m_L_classes) (rc := 0) (rs := 0) dL_classes_5 lv_L_68 m9 I.o rfl (by decide) rfl rfl rfl (Nat.le_of_ble_eq_true rfl) (fun _ _ => rfl) rfl ?_
      refine st_catch lc_L_classes_2 dL_classes_13 (by decide) rfl ?_
      refine sw_iconst (v := 1) dL_classes_15 (by decide) ?_
      exact sw_ret (v := some (.int 1)) dL_classes_16 rt_i ⟨rfl, rfl⟩
    · exact absurd (if_neg h1) hk
theorem h_survey {x y : Int32} (I : INV c) (g82 : ∃ a, c 82 = [.long a]) (g83 : ∃ a, c 83 = [.double a]) : HP m_L_survey m_X10_survey (d + 20) [.int x, .int y] (fun y => y.toInt64) c := by
  rcases p_survey (d := d) (x := x) (y := y) I with ⟨c1, v, m9, hv, b1, k⟩ | ⟨e, c2, v, m9, hv, m10, th, hk, I2, b2⟩
  · obtain ⟨w, rfl⟩ := vt_int (Or.inl rfl) hv
    obtain ⟨a, g82⟩ := g82
    have e82 : c1 82 = [.long a] := (b1 82 (by decide)).trans g82
    obtain ⟨c2, m10, th, I2, b2⟩ := k (up1 c1 82 [.long w.toInt64]) (fun i hi => up1_ne _ _ (by omega))
    obtain ⟨z, hz⟩ := I.m
    refine ⟨0, w, _, c2, MS.of (by decide +kernel) (Nat.le_of_ble_eq_true rfl) cw_L_survey ?_, m10, th, by decide, I2, ⟨w.toInt64, (b2 82 (by decide)).trans (up1_same _ _ _), fun _ => rfl⟩, (b2 83 (by decide)).trans ((up1_ne _ _ (by decide)).trans (b1 83 (by decide))), z, (up1_ne _ _ (by decide)).trans ((b1 70 (by decide)).trans hz)⟩
    refine sw_room (rc := 0) (rs := 0) (a := 1) (b := 6) ?_
    show SW none m_L_survey (d + 20 + 1) 0 0 0 [some (.ref 0), some (.int x), some (.int y), some (.ref 82), none] [] (hp c) _
    refine sw_aload_n dL_survey_0 rfl ?_
    refine sw_iconst (v := 0) dL_survey_1 (by decide) ?_
    refine sw_aload_n dL_survey_2 rfl ?_
    refine sw_iload_n dL_survey_3 rfl ?_
    refine sw_iload_n dL_survey_4 rfl ?_
    refine sw_cV (M := m_L_survey) dL_survey_5 lv_L_72 m9 I.o rfl (by decide) rfl rfl rfl (Nat.le_of_ble_eq_true rfl) (fun _ _ => rfl) rfl ?_
    refine sw_i2l dL_survey_8 ?_
    refine sw_last (vs := [.long a]) dL_survey_9 (hp_is 82 102 e82 (by decide) (by decide)) (by decide) (by show 0 < 1; decide) ?_
    refine sw_goto (tgt := 17) dL_survey_10 (by decide) ?_
    refine sw_iconst (v := 0) dL_survey_17 (by decide) ?_
    exact sw_ret (v := some (.int 0)) dL_survey_18 rt_i ⟨rfl, hp_set (by decide) (by decide)⟩
  · obtain ⟨w, rfl⟩ := vt_int (Or.inl rfl) hv
    obtain ⟨z, hz⟩ := I.m
    obtain ⟨a, g82⟩ := g82
    by_cases h1 : e = 2
    · subst h1
      refine ⟨1, w, c, c2, MS.of (by decide +kernel) (Nat.le_of_ble_eq_true rfl) cw_L_survey ?_, m10, th, by decide, I2, ⟨a, (b2 82 (by decide)).trans g82, fun q => (by cases q)⟩, b2 83 (by decide), z, hz⟩
      show SW none m_L_survey (d + 20 + 1) (0 + 1) (0 + 6) 0 [some (.ref 0), some (.int x), some (.int y), some (.ref 82), none] [] (hp c) _
      refine sw_aload_n dL_survey_0 rfl ?_
      refine sw_iconst (v := 0) dL_survey_1 (by decide) ?_
      refine sw_aload_n dL_survey_2 rfl ?_
      refine sw_iload_n dL_survey_3 rfl ?_
      refine sw_iload_n dL_survey_4 rfl ?_
      refine sw_xV (M := m_L_survey) (rc := 0) (rs := 0) dL_survey_5 lv_L_72 m9 I.o rfl (by decide) rfl rfl rfl (Nat.le_of_ble_eq_true rfl) (fun _ _ => rfl) rfl ?_
      refine st_catch lc_L_survey_2 dL_survey_13 (by decide) rfl ?_
      refine sw_iconst (v := 1) dL_survey_15 (by decide) ?_
      exact sw_ret (v := some (.int 1)) dL_survey_16 rt_i ⟨rfl, rfl⟩
    · exact absurd (if_neg h1) hk
theorem h_link {x y : Int32} (I : INV c) (g82 : ∃ a, c 82 = [.long a]) (g83 : ∃ a, c 83 = [.double a]) : HP m_L_link m_X10_link (d + 20) [.int x, .int y] (fun y => y.toInt64) c := by
  rcases p_link (d := d) (x := x) (y := y) I with ⟨c1, v, m9, hv, b1, k⟩ | ⟨e, c2, v, m9, hv, m10, th, hk, I2, b2⟩
  · obtain ⟨w, rfl⟩ := vt_int (Or.inl rfl) hv
    obtain ⟨a, g82⟩ := g82
    have e82 : c1 82 = [.long a] := (b1 82 (by decide)).trans g82
    obtain ⟨c2, m10, th, I2, b2⟩ := k (up1 c1 82 [.long w.toInt64]) (fun i hi => up1_ne _ _ (by omega))
    obtain ⟨z, hz⟩ := I.m
    refine ⟨0, w, _, c2, MS.of (by decide +kernel) (Nat.le_of_ble_eq_true rfl) cw_L_link ?_, m10, th, by decide, I2, ⟨w.toInt64, (b2 82 (by decide)).trans (up1_same _ _ _), fun _ => rfl⟩, (b2 83 (by decide)).trans ((up1_ne _ _ (by decide)).trans (b1 83 (by decide))), z, (up1_ne _ _ (by decide)).trans ((b1 70 (by decide)).trans hz)⟩
    refine sw_room (rc := 0) (rs := 0) (a := 1) (b := 6) ?_
    show SW none m_L_link (d + 20 + 1) 0 0 0 [some (.ref 0), some (.int x), some (.int y), some (.ref 82), none] [] (hp c) _
    refine sw_aload_n dL_link_0 rfl ?_
    refine sw_iconst (v := 0) dL_link_1 (by decide) ?_
    refine sw_aload_n dL_link_2 rfl ?_
    refine sw_iload_n dL_link_3 rfl ?_
    refine sw_iload_n dL_link_4 rfl ?_
    refine sw_cV (M := m_L_link) dL_link_5 lv_L_75 m9 I.o rfl (by decide) rfl rfl rfl (Nat.le_of_ble_eq_true rfl) (fun _ _ => rfl) rfl ?_
    refine sw_i2l dL_link_8 ?_
    refine sw_last (vs := [.long a]) dL_link_9 (hp_is 82 102 e82 (by decide) (by decide)) (by decide) (by show 0 < 1; decide) ?_
    refine sw_goto (tgt := 17) dL_link_10 (by decide) ?_
    refine sw_iconst (v := 0) dL_link_17 (by decide) ?_
    exact sw_ret (v := some (.int 0)) dL_link_18 rt_i ⟨rfl, hp_set (by decide) (by decide)⟩
  · obtain ⟨w, rfl⟩ := vt_int (Or.inl rfl) hv
    obtain ⟨z, hz⟩ := I.m
    obtain ⟨a, g82⟩ := g82
    by_cases h1 : e = 1
    · subst h1
      refine ⟨1, w, c, c2, MS.of (by decide +kernel) (Nat.le_of_ble_eq_true rfl) cw_L_link ?_, m10, th, by decide, I2, ⟨a, (b2 82 (by decide)).trans g82, fun q => (by cases q)⟩, b2 83 (by decide), z, hz⟩
      show SW none m_L_link (d + 20 + 1) (0 + 1) (0 + 6) 0 [some (.ref 0), some (.int x), some (.int y), some (.ref 82), none] [] (hp c) _
      refine sw_aload_n dL_link_0 rfl ?_
      refine sw_iconst (v := 0) dL_link_1 (by decide) ?_
      refine sw_aload_n dL_link_2 rfl ?_
      refine sw_iload_n dL_link_3 rfl ?_
      refine sw_iload_n dL_link_4 rfl ?_
      refine sw_xV (M := m_L_link) (rc := 0) (rs := 0) dL_link_5 lv_L_75 m9 I.o rfl (by decide) rfl rfl rfl (Nat.le_of_ble_eq_true rfl) (fun _ _ => rfl) rfl ?_
      refine st_catch lc_L_link_1 dL_link_13 (by decide) rfl ?_
      refine sw_iconst (v := 1) dL_link_15 (by decide) ?_
      exact sw_ret (v := some (.int 1)) dL_link_16 rt_i ⟨rfl, rfl⟩
    · exact absurd (if_neg h1) hk
theorem h_cut {x y : Int32} (I : INV c) (g82 : ∃ a, c 82 = [.long a]) (g83 : ∃ a, c 83 = [.double a]) : HP m_L_cut m_X10_cut (d + 20) [.int x, .int y] (fun y => if y = 0 then 0 else 1) c := by
  rcases p_cut (d := d) (x := x) (y := y) I with ⟨c1, v, m9, hv, b1, k⟩ | ⟨e, c2, v, m9, hv, m10, th, hk, I2, b2⟩
  · obtain ⟨w, rfl⟩ := vt_int (Or.inr rfl) hv
    obtain ⟨a, g82⟩ := g82
    have e82 : c1 82 = [.long a] := (b1 82 (by decide)).trans g82
    obtain ⟨c2, m10, th, I2, b2⟩ := k (up1 c1 82 [.long (if w = 0 then 0 else 1)]) (fun i hi => up1_ne _ _ (by omega))
    obtain ⟨z, hz⟩ := I.m
    refine ⟨0, w, _, c2, MS.of (by decide +kernel) (Nat.le_of_ble_eq_true rfl) cw_L_cut ?_, m10, th, by decide, I2, ⟨(if w = 0 then 0 else 1), (b2 82 (by decide)).trans (up1_same _ _ _), fun _ => rfl⟩, (b2 83 (by decide)).trans ((up1_ne _ _ (by decide)).trans (b1 83 (by decide))), z, (up1_ne _ _ (by decide)).trans ((b1 70 (by decide)).trans hz)⟩
    refine sw_room (rc := 0) (rs := 0) (a := 1) (b := 6) ?_
    show SW none m_L_cut (d + 20 + 1) 0 0 0 [some (.ref 0), some (.int x), some (.int y), some (.ref 82), none] [] (hp c) _
    refine sw_aload_n dL_cut_0 rfl ?_
    refine sw_iconst (v := 0) dL_cut_1 (by decide) ?_
    refine sw_aload_n dL_cut_2 rfl ?_
    refine sw_iload_n dL_cut_3 rfl ?_
    refine sw_iload_n dL_cut_4 rfl ?_
    refine sw_cV (M := m_L_cut) dL_cut_5 lv_L_78 m9 I.o rfl (by decide) rfl rfl rfl (Nat.le_of_ble_eq_true rfl) (fun _ _ => rfl) rfl ?_
    refine sw_if_eq (tgt := 15) dL_cut_8 (by decide) (fun q => ?_) (fun q => ?_)
    · rw [lj_b q]
      refine sw_lconst (v := 0) dL_cut_15 (by decide) ?_
      refine sw_last (vs := [.long a]) dL_cut_16 (hp_is 82 102 e82 (by decide) (by decide)) (by decide) (by show 0 < 1; decide) ?_
      refine sw_goto (tgt := 24) dL_cut_17 (by decide) ?_
      refine sw_iconst (v := 0) dL_cut_24 (by decide) ?_
      exact sw_ret (v := some (.int 0)) dL_cut_25 rt_i ⟨rfl, hp_set (by decide) (by decide)⟩
    · rw [lj_c q]
      refine sw_lconst (v := 1) dL_cut_11 (by decide) ?_
      refine sw_goto (tgt := 16) dL_cut_12 (by decide) ?_
      refine sw_last (vs := [.long a]) dL_cut_16 (hp_is 82 102 e82 (by decide) (by decide)) (by decide) (by show 0 < 1; decide) ?_
      refine sw_goto (tgt := 24) dL_cut_17 (by decide) ?_
      refine sw_iconst (v := 0) dL_cut_24 (by decide) ?_
      exact sw_ret (v := some (.int 0)) dL_cut_25 rt_i ⟨rfl, hp_set (by decide) (by decide)⟩
  · obtain ⟨w, rfl⟩ := vt_int (Or.inr rfl) hv
    obtain ⟨z, hz⟩ := I.m
    obtain ⟨a, g82⟩ := g82
    by_cases h1 : e = 1
    · subst h1
      refine ⟨1, w, c, c2, MS.of (by decide +kernel) (Nat.le_of_ble_eq_true rfl) cw_L_cut ?_, m10, th, by decide, I2, ⟨a, (b2 82 (by decide)).trans g82, fun q => (by cases q)⟩, b2 83 (by decide), z, hz⟩
      show SW none m_L_cut (d + 20 + 1) (0 + 1) (0 + 6) 0 [some (.ref 0), some (.int x), some (.int y), some (.ref 82), none] [] (hp c) _
      refine sw_aload_n dL_cut_0 rfl ?_
      refine sw_iconst (v := 0) dL_cut_1 (by decide) ?_
      refine sw_aload_n dL_cut_2 rfl ?_
      refine sw_iload_n dL_cut_3 rfl ?_
      refine sw_iload_n dL_cut_4 rfl ?_
      refine sw_xV (M := m_L_cut) (rc := 0) (rs := 0) dL_cut_5 lv_L_78 m9 I.o rfl (by decide) rfl rfl rfl (Nat.le_of_ble_eq_true rfl) (fun _ _ => rfl) rfl ?_
      refine st_catch lc_L_cut_1 dL_cut_20 (by decide) rfl ?_
      refine sw_iconst (v := 1) dL_cut_22 (by decide) ?_
      exact sw_ret (v := some (.int 1)) dL_cut_23 rt_i ⟨rfl, rfl⟩
    · exact absurd (if_neg h1) hk
theorem h_regraft {x y u : Int32} (I : INV c) (g82 : ∃ a, c 82 = [.long a]) (g83 : ∃ a, c 83 = [.double a]) : HP m_L_regraft m_X10_regraft (d + 20) [.int x, .int y, .int u] (fun y => y.toInt64) c := by
  rcases p_regraft (d := d) (x := x) (y := y) (u := u) I with ⟨c1, v, m9, hv, b1, k⟩ | ⟨e, c2, v, m9, hv, m10, th, hk, I2, b2⟩
  · obtain ⟨w, rfl⟩ := vt_int (Or.inl rfl) hv
    obtain ⟨a, g82⟩ := g82
    have e82 : c1 82 = [.long a] := (b1 82 (by decide)).trans g82
    obtain ⟨c2, m10, th, I2, b2⟩ := k (up1 c1 82 [.long w.toInt64]) (fun i hi => up1_ne _ _ (by omega))
    obtain ⟨z, hz⟩ := I.m
    refine ⟨0, w, _, c2, MS.of (by decide +kernel) (Nat.le_of_ble_eq_true rfl) cw_L_regraft ?_, m10, th, by decide, I2, ⟨w.toInt64, (b2 82 (by decide)).trans (up1_same _ _ _), fun _ => rfl⟩, (b2 83 (by decide)).trans ((up1_ne _ _ (by decide)).trans (b1 83 (by decide))), z, (up1_ne _ _ (by decide)).trans ((b1 70 (by decide)).trans hz)⟩
    refine sw_room (rc := 0) (rs := 0) (a := 1) (b := 6) ?_
    show SW none m_L_regraft (d + 20 + 1) 0 0 0 [some (.ref 0), some (.int x), some (.int y), some (.int u), some (.ref 82), none] [] (hp c) _
    refine sw_aload dL_regraft_0 rfl ?_
    refine sw_iconst (v := 0) dL_regraft_2 (by decide) ?_
    refine sw_aload_n dL_regraft_3 rfl ?_
    refine sw_iload_n dL_regraft_4 rfl ?_
    refine sw_iload_n dL_regraft_5 rfl ?_
    refine sw_iload_n dL_regraft_6 rfl ?_
    refine sw_cV (M := m_L_regraft) dL_regraft_7 lv_L_82 m9 I.o rfl (by decide) rfl rfl rfl (Nat.le_of_ble_eq_true rfl) (fun _ _ => rfl) rfl ?_
    refine sw_i2l dL_regraft_10 ?_
    refine sw_last (vs := [.long a]) dL_regraft_11 (hp_is 82 102 e82 (by decide) (by decide)) (by decide) (by show 0 < 1; decide) ?_
    refine sw_goto (tgt := 19) dL_regraft_12 (by decide) ?_
    refine sw_iconst (v := 0) dL_regraft_19 (by decide) ?_
    exact sw_ret (v := some (.int 0)) dL_regraft_20 rt_i ⟨rfl, hp_set (by decide) (by decide)⟩
  · obtain ⟨w, rfl⟩ := vt_int (Or.inl rfl) hv
    obtain ⟨z, hz⟩ := I.m
    obtain ⟨a, g82⟩ := g82
    by_cases h1 : e = 1
    · subst h1
      refine ⟨1, w, c, c2, MS.of (by decide +kernel) (Nat.le_of_ble_eq_true rfl) cw_L_regraft ?_, m10, th, by decide, I2, ⟨a, (b2 82 (by decide)).trans g82, fun q => (by cases q)⟩, b2 83 (by decide), z, hz⟩
      show SW none m_L_regraft (d + 20 + 1) (0 + 1) (0 + 6) 0 [some (.ref 0), some (.int x), some (.int y), some (.int u), some (.ref 82), none] [] (hp c) _
      refine sw_aload dL_regraft_0 rfl ?_
      refine sw_iconst (v := 0) dL_regraft_2 (by decide) ?_
      refine sw_aload_n dL_regraft_3 rfl ?_
      refine sw_iload_n dL_regraft_4 rfl ?_
      refine sw_iload_n dL_regraft_5 rfl ?_
      refine sw_iload_n dL_regraft_6 rfl ?_
      refine sw_xV (M := m_L_regraft) (rc := 0) (rs := 0) dL_regraft_7 lv_L_82 m9 I.o rfl (by decide) rfl rfl rfl (Nat.le_of_ble_eq_true rfl) (fun _ _ => rfl) rfl ?_
      refine st_catch lc_L_regraft_1 dL_regraft_15 (by decide) rfl ?_
      refine sw_iconst (v := 1) dL_regraft_17 (by decide) ?_
      exact sw_ret (v := some (.int 1)) dL_regraft_18 rt_i ⟨rfl, rfl⟩
    · exact absurd (if_neg h1) hk
theorem h_prune {x : Int32} (I : INV c) (g82 : ∃ a, c 82 = [.long a]) (g83 : ∃ a, c 83 = [.double a]) : HP m_L_prune m_X10_prune (d + 20) [.int x] (fun y => y.toInt64) c := by
  rcases p_prune (d := d) (x := x) I with ⟨c1, v, m9, hv, b1, k⟩ | ⟨e, c2, v, m9, hv, m10, th, hk, I2, b2⟩
  · obtain ⟨w, rfl⟩ := vt_int (Or.inl rfl) hv
    obtain ⟨a, g82⟩ := g82
    have e82 : c1 82 = [.long a] := (b1 82 (by decide)).trans g82
    obtain ⟨c2, m10, th, I2, b2⟩ := k (up1 c1 82 [.long w.toInt64]) (fun i hi => up1_ne _ _ (by omega))
    obtain ⟨z, hz⟩ := I.m
    refine ⟨0, w, _, c2, MS.of (by decide +kernel) (Nat.le_of_ble_eq_true rfl) cw_L_prune ?_, m10, th, by decide, I2, ⟨w.toInt64, (b2 82 (by decide)).trans (up1_same _ _ _), fun _ => rfl⟩, (b2 83 (by decide)).trans ((up1_ne _ _ (by decide)).trans (b1 83 (by decide))), z, (up1_ne _ _ (by decide)).trans ((b1 70 (by decide)).trans hz)⟩
    refine sw_room (rc := 0) (rs := 0) (a := 1) (b := 6) ?_
    show SW none m_L_prune (d + 20 + 1) 0 0 0 [some (.ref 0), some (.int x), some (.ref 82), none] [] (hp c) _
    refine sw_aload_n dL_prune_0 rfl ?_
    refine sw_iconst (v := 0) dL_prune_1 (by decide) ?_
    refine sw_aload_n dL_prune_2 rfl ?_
    refine sw_iload_n dL_prune_3 rfl ?_
    refine sw_cV (M := m_L_prune) dL_prune_4 lv_L_85 m9 I.o rfl (by decide) rfl rfl rfl (Nat.le_of_ble_eq_true rfl) (fun _ _ => rfl) rfl ?_
    refine sw_i2l dL_prune_7 ?_
    refine sw_last (vs := [.long a]) dL_prune_8 (hp_is 82 102 e82 (by decide) (by decide)) (by decide) (by show 0 < 1; decide) ?_
    refine sw_goto (tgt := 15) dL_prune_9 (by decide) ?_
    refine sw_iconst (v := 0) dL_prune_15 (by decide) ?_
    exact sw_ret (v := some (.int 0)) dL_prune_16 rt_i ⟨rfl, hp_set (by decide) (by decide)⟩
  · obtain ⟨w, rfl⟩ := vt_int (Or.inl rfl) hv
    obtain ⟨z, hz⟩ := I.m
    obtain ⟨a, g82⟩ := g82
    by_cases h1 : e = 2
    · subst h1
      refine ⟨1, w, c, c2, MS.of (by decide +kernel) (Nat.le_of_ble_eq_true rfl) cw_L_prune ?_, m10, th, by decide, I2, ⟨a, (b2 82 (by decide)).trans g82, fun q => (by cases q)⟩, b2 83 (by decide), z, hz⟩
      show SW none m_L_prune (d + 20 + 1) (0 + 1) (0 + 6) 0 [some (.ref 0), some (.int x), some (.ref 82), none] [] (hp c) _
      refine sw_aload_n dL_prune_0 rfl ?_
      refine sw_iconst (v := 0) dL_prune_1 (by decide) ?_
      refine sw_aload_n dL_prune_2 rfl ?_
      refine sw_iload_n dL_prune_3 rfl ?_
      refine sw_xV (M := m_L_prune) (rc := 0) (rs := 0) dL_prune_4 lv_L_85 m9 I.o rfl (by decide) rfl rfl rfl (Nat.le_of_ble_eq_true rfl) (fun _ _ => rfl) rfl ?_
      refine st_catch_n lc_L_prune_2 dL_prune_12 (by decide) rfl ?_
      refine sw_iconst (v := 1) dL_prune_13 (by decide) ?_
      exact sw_ret (v := some (.int 1)) dL_prune_14 rt_i ⟨rfl, rfl⟩
    · exact absurd (if_neg h1) hk
theorem h_swap {x y : Int32} (I : INV c) (g82 : ∃ a, c 82 = [.long a]) (g83 : ∃ a, c 83 = [.double a]) : HP m_L_swap m_X10_swap (d + 20) [.int x, .int y] (fun y => y.toInt64) c := by
  rcases p_swap (d := d) (x := x) (y := y) I with ⟨c1, v, m9, hv, b1, k⟩ | ⟨e, c2, v, m9, hv, m10, th, hk, I2, b2⟩
  · obtain ⟨w, rfl⟩ := vt_int (Or.inl rfl) hv
    obtain ⟨a, g82⟩ := g82
    have e82 : c1 82 = [.long a] := (b1 82 (by decide)).trans g82
    obtain ⟨c2, m10, th, I2, b2⟩ := k (up1 c1 82 [.long w.toInt64]) (fun i hi => up1_ne _ _ (by omega))
    obtain ⟨z, hz⟩ := I.m
    refine ⟨0, w, _, c2, MS.of (by decide +kernel) (Nat.le_of_ble_eq_true rfl) cw_L_swap ?_, m10, th, by decide, I2, ⟨w.toInt64, (b2 82 (by decide)).trans (up1_same _ _ _), fun _ => rfl⟩, (b2 83 (by decide)).trans ((up1_ne _ _ (by decide)).trans (b1 83 (by decide))), z, (up1_ne _ _ (by decide)).trans ((b1 70 (by decide)).trans hz)⟩
    refine sw_room (rc := 0) (rs := 0) (a := 1) (b := 6) ?_
    show SW none m_L_swap (d + 20 + 1) 0 0 0 [some (.ref 0), some (.int x), some (.int y), some (.ref 82), none] [] (hp c) _
    refine sw_aload_n dL_swap_0 rfl ?_
    refine sw_iconst (v := 0) dL_swap_1 (by decide) ?_
    refine sw_aload_n dL_swap_2 rfl ?_
    refine sw_iload_n dL_swap_3 rfl ?_
    refine sw_iload_n dL_swap_4 rfl ?_
    refine sw_cV (M := m_L_swap) dL_swap_5 lv_L_88 m9 I.o rfl (by decide) rfl rfl rfl (Nat.le_of_ble_eq_true rfl) (fun _ _ => rfl) rfl ?_
    refine sw_i2l dL_swap_8 ?_
    refine sw_last (vs := [.long a]) dL_swap_9 (hp_is 82 102 e82 (by decide) (by decide)) (by decide) (by show 0 < 1; decide) ?_
    refine sw_goto (tgt := 17) dL_swap_10 (by decide) ?_
    refine sw_iconst (v := 0) dL_swap_17 (by decide) ?_
    exact sw_ret (v := some (.int 0)) dL_swap_18 rt_i ⟨rfl, hp_set (by decide) (by decide)⟩
  · obtain ⟨w, rfl⟩ := vt_int (Or.inl rfl) hv
    obtain ⟨z, hz⟩ := I.m
    obtain ⟨a, g82⟩ := g82
    by_cases h1 : e = 1
    · subst h1
      refine ⟨1, w, c, c2, MS.of (by decide +kernel) (Nat.le_of_ble_eq_true rfl) cw_L_swap ?_, m10, th, by decide, I2, ⟨a, (b2 82 (by decide)).trans g82, fun q => (by cases q)⟩, b2 83 (by decide), z, hz⟩
      show SW none m_L_swap (d + 20 + 1) (0 + 1) (0 + 6) 0 [some (.ref 0), some (.int x), some (.int y), some (.ref 82), none] [] (hp c) _
      refine sw_aload_n dL_swap_0 rfl ?_
      refine sw_iconst (v := 0) dL_swap_1 (by decide) ?_
      refine sw_aload_n dL_swap_2 rfl ?_
      refine sw_iload_n dL_swap_3 rfl ?_
      refine sw_iload_n dL_swap_4 rfl ?_
      refine sw_xV (M := m_L_swap) (rc := 0) (rs := 0) dL_swap_5 lv_L_88 m9 I.o rfl (by decide) rfl rfl rfl (Nat.le_of_ble_eq_true rfl) (fun _ _ => rfl) rfl ?_
      refine st_catch lc_L_swap_1 dL_swap_13 (by decide) rfl ?_
      refine sw_iconst (v := 1) dL_swap_15 (by decide) ?_
      exact sw_ret (v := some (.int 1)) dL_swap_16 rt_i ⟨rfl, rfl⟩
    · exact absurd (if_neg h1) hk
theorem h_setWeight {x y : Int32} (I : INV c) (g82 : ∃ a, c 82 = [.long a]) (g83 : ∃ a, c 83 = [.double a]) : HP m_L_setWeight m_X10_setWeight (d + 20) [.int x, .int y] (fun y => y.toInt64) c := by
  rcases p_setWeight (d := d) (x := x) (y := y) I with ⟨c1, v, m9, hv, b1, k⟩ | ⟨e, c2, v, m9, hv, m10, th, hk, I2, b2⟩
  · obtain ⟨w, rfl⟩ := vt_int (Or.inl rfl) hv
    obtain ⟨a, g82⟩ := g82
    have e82 : c1 82 = [.long a] := (b1 82 (by decide)).trans g82
    obtain ⟨c2, m10, th, I2, b2⟩ := k (up1 c1 82 [.long w.toInt64]) (fun i hi => up1_ne _ _ (by omega))
    obtain ⟨z, hz⟩ := I.m
    refine ⟨0, w, _, c2, MS.of (by decide +kernel) (Nat.le_of_ble_eq_true rfl) cw_L_setWeight ?_, m10, th, by decide, I2, ⟨w.toInt64, (b2 82 (by decide)).trans (up1_same _ _ _), fun _ => rfl⟩, (b2 83 (by decide)).trans ((up1_ne _ _ (by decide)).trans (b1 83 (by decide))), z, (up1_ne _ _ (by decide)).trans ((b1 70 (by decide)).trans hz)⟩
    refine sw_room (rc := 0) (rs := 0) (a := 1) (b := 6) ?_
    show SW none m_L_setWeight (d + 20 + 1) 0 0 0 [some (.ref 0), some (.int x), some (.int y), some (.ref 82), none] [] (hp c) _
    refine sw_aload_n dL_setWeight_0 rfl ?_
    refine sw_iconst (v := 0) dL_setWeight_1 (by decide) ?_
    refine sw_aload_n dL_setWeight_2 rfl ?_
    refine sw_iload_n dL_setWeight_3 rfl ?_
    refine sw_iload_n dL_setWeight_4 rfl ?_
    refine sw_cV (M := m_L_setWeight) dL_setWeight_5 lv_L_91 m9 I.o rfl (by decide) rfl rfl rfl (Nat.le_of_ble_eq_true rfl) (fun _ _ => rfl) rfl ?_
    refine sw_i2l dL_setWeight_8 ?_
    refine sw_last (vs := [.long a]) dL_setWeight_9 (hp_is 82 102 e82 (by decide) (by decide)) (by decide) (by show 0 < 1; decide) ?_
    refine sw_goto (tgt := 21) dL_setWeight_10 (by decide) ?_
    refine sw_iconst (v := 0) dL_setWeight_21 (by decide) ?_
    exact sw_ret (v := some (.int 0)) dL_setWeight_22 rt_i ⟨rfl, hp_set (by decide) (by decide)⟩
  · obtain ⟨w, rfl⟩ := vt_int (Or.inl rfl) hv
    obtain ⟨z, hz⟩ := I.m
    obtain ⟨a, g82⟩ := g82
    by_cases h1 : e = 1
    · subst h1
      refine ⟨1, w, c, c2, MS.of (by decide +kernel) (Nat.le_of_ble_eq_true rfl) cw_L_setWeight ?_, m10, th, by decide, I2, ⟨a, (b2 82 (by decide)).trans g82, fun q => (by cases q)⟩, b2 83 (by decide), z, hz⟩
      show SW none m_L_setWeight (d + 20 + 1) (0 + 1) (0 + 6) 0 [some (.ref 0), some (.int x), some (.int y), some (.ref 82), none] [] (hp c) _
      refine sw_aload_n dL_setWeight_0 rfl ?_
      refine sw_iconst (v := 0) dL_setWeight_1 (by decide) ?_
      refine sw_aload_n dL_setWeight_2 rfl ?_
      refine sw_iload_n dL_setWeight_3 rfl ?_
      refine sw_iload_n dL_setWeight_4 rfl ?_
      refine sw_xV (M := m_L_setWeight) (rc := 0) (rs := 0) dL_setWeight_5 lv_L_91 m9 I.o rfl (by decide) rfl rfl rfl (Nat.le_of_ble_eq_true rfl) (fun _ _ => rfl) rfl ?_
      refine st_catch lc_L_setWeight_1 dL_setWeight_13 (by decide) rfl ?_
      refine sw_iconst (v := 1) dL_setWeight_15 (by decide) ?_
      exact sw_ret (v := some (.int 1)) dL_setWeight_16 rt_i ⟨rfl, rfl⟩
    · by_cases h2 : e = 2
      · subst h2
        refine ⟨2, w, c, c2, MS.of (by decide +kernel) (Nat.le_of_ble_eq_true rfl) cw_L_setWeight ?_, m10, th, by decide, I2, ⟨a, (b2 82 (by decide)).trans g82, fun q => (by cases q)⟩, b2 83 (by decide), z, hz⟩
        show SW none m_L_setWeight (d + 20 + 1) (0 + 1) (0 + 6) 0 [some (.ref 0), some (.int x), some (.int y), some (.ref 82), none] [] (hp c) _
        refine sw_aload_n dL_setWeight_0 rfl ?_
        refine sw_iconst (v := 0) dL_setWeight_1 (by decide) ?_
        refine sw_aload_n dL_setWeight_2 rfl ?_
        refine sw_iload_n dL_setWeight_3 rfl ?_
        refine sw_iload_n dL_setWeight_4 rfl ?_
        refine sw_xV (M := m_L_setWeight) (rc := 0) (rs := 0) dL_setWeight_5 lv_L_91 m9 I.o rfl (by decide) rfl rfl rfl (Nat.le_of_ble_eq_true rfl) (fun _ _ => rfl) rfl ?_
        refine st_catch lc_L_setWeight_2 dL_setWeight_17 (by decide) rfl ?_
        refine sw_iconst (v := 2) dL_setWeight_19 (by decide) ?_
        exact sw_ret (v := some (.int 2)) dL_setWeight_20 rt_i ⟨rfl, rfl⟩
      · exact absurd ((if_neg h1).trans (if_neg h2)) hk
theorem h_fromRank {x : Int32} (I : INV c) (g82 : ∃ a, c 82 = [.long a]) (g83 : ∃ a, c 83 = [.double a]) : HP m_L_fromRank m_X10_fromRank (d + 20) [.int x] (fun y => y.toInt64) c := by
  rcases p_fromRank (d := d) (x := x) I with ⟨c1, v, m9, hv, b1, k⟩ | ⟨e, c2, v, m9, hv, m10, th, hk, I2, b2⟩
  · obtain ⟨w, rfl⟩ := vt_int (Or.inl rfl) hv
    obtain ⟨a, g82⟩ := g82
    have e82 : c1 82 = [.long a] := (b1 82 (by decide)).trans g82
    obtain ⟨c2, m10, th, I2, b2⟩ := k (up1 c1 82 [.long w.toInt64]) (fun i hi => up1_ne _ _ (by omega))
    obtain ⟨z, hz⟩ := I.m
    refine ⟨0, w, _, c2, MS.of (by decide +kernel) (Nat.le_of_ble_eq_true rfl) cw_L_fromRank ?_, m10, th, by decide, I2, ⟨w.toInt64, (b2 82 (by decide)).trans (up1_same _ _ _), fun _ => rfl⟩, (b2 83 (by decide)).trans ((up1_ne _ _ (by decide)).trans (b1 83 (by decide))), z, (up1_ne _ _ (by decide)).trans ((b1 70 (by decide)).trans hz)⟩
    refine sw_room (rc := 0) (rs := 0) (a := 1) (b := 6) ?_
    show SW none m_L_fromRank (d + 20 + 1) 0 0 0 [some (.ref 0), some (.int x), some (.ref 82), none] [] (hp c) _
    refine sw_aload_n dL_fromRank_0 rfl ?_
    refine sw_iconst (v := 0) dL_fromRank_1 (by decide) ?_
    refine sw_aload_n dL_fromRank_2 rfl ?_
    refine sw_iload_n dL_fromRank_3 rfl ?_
    refine sw_cV (M := m_L_fromRank) dL_fromRank_4 lv_L_94 m9 I.o rfl (by decide) rfl rfl rfl (Nat.le_of_ble_eq_true rfl) (fun _ _ => rfl) rfl ?_
    refine sw_i2l dL_fromRank_7 ?_
    refine sw_last (vs := [.long a]) dL_fromRank_8 (hp_is 82 102 e82 (by decide) (by decide)) (by decide) (by show 0 < 1; decide) ?_
    refine sw_goto (tgt := 15) dL_fromRank_9 (by decide) ?_
    refine sw_iconst (v := 0) dL_fromRank_15 (by decide) ?_
    exact sw_ret (v := some (.int 0)) dL_fromRank_16 rt_i ⟨rfl, hp_set (by decide) (by decide)⟩
  · obtain ⟨w, rfl⟩ := vt_int (Or.inl rfl) hv
    obtain ⟨z, hz⟩ := I.m
    obtain ⟨a, g82⟩ := g82
    by_cases h1 : e = 2
    · subst h1
      refine ⟨1, w, c, c2, MS.of (by decide +kernel) (Nat.le_of_ble_eq_true rfl) cw_L_fromRank ?_, m10, th, by decide, I2, ⟨a, (b2 82 (by decide)).trans g82, fun q => (by cases q)⟩, b2 83 (by decide), z, hz⟩
      show SW none m_L_fromRank (d + 20 + 1) (0 + 1) (0 + 6) 0 [some (.ref 0), some (.int x), some (.ref 82), none] [] (hp c) _
      refine sw_aload_n dL_fromRank_0 rfl ?_
      refine sw_iconst (v := 0) dL_fromRank_1 (by decide) ?_
      refine sw_aload_n dL_fromRank_2 rfl ?_
      refine sw_iload_n dL_fromRank_3 rfl ?_
      refine sw_xV (M := m_L_fromRank) (rc := 0) (rs := 0) dL_fromRank_4 lv_L_94 m9 I.o rfl (by decide) rfl rfl rfl (Nat.le_of_ble_eq_true rfl) (fun _ _ => rfl) rfl ?_
      refine st_catch_n lc_L_fromRank_2 dL_fromRank_12 (by decide) rfl ?_
      refine sw_iconst (v := 1) dL_fromRank_13 (by decide) ?_
      exact sw_ret (v := some (.int 1)) dL_fromRank_14 rt_i ⟨rfl, rfl⟩
    · exact absurd (if_neg h1) hk
theorem h_keep {x : Int32} (I : INV c) (g82 : ∃ a, c 82 = [.long a]) (g83 : ∃ a, c 83 = [.double a]) : HP m_L_keep m_X10_keep (d + 20) [.int x] (fun y => if y = 0 then 0 else 1) c := by
  rcases p_keep (d := d) (x := x) I with ⟨c1, v, m9, hv, b1, k⟩ | ⟨e, c2, v, m9, hv, m10, th, hk, I2, b2⟩
  · obtain ⟨w, rfl⟩ := vt_int (Or.inr rfl) hv
    obtain ⟨a, g82⟩ := g82
    have e82 : c1 82 = [.long a] := (b1 82 (by decide)).trans g82
    obtain ⟨c2, m10, th, I2, b2⟩ := k (up1 c1 82 [.long (if w = 0 then 0 else 1)]) (fun i hi => up1_ne _ _ (by omega))
    obtain ⟨z, hz⟩ := I.m
    refine ⟨0, w, _, c2, MS.of (by decide +kernel) (Nat.le_of_ble_eq_true rfl) cw_L_keep ?_, m10, th, by decide, I2, ⟨(if w = 0 then 0 else 1), (b2 82 (by decide)).trans (up1_same _ _ _), fun _ => rfl⟩, (b2 83 (by decide)).trans ((up1_ne _ _ (by decide)).trans (b1 83 (by decide))), z, (up1_ne _ _ (by decide)).trans ((b1 70 (by decide)).trans hz)⟩
    refine sw_room (rc := 0) (rs := 0) (a := 1) (b := 6) ?_
    show SW none m_L_keep (d + 20 + 1) 0 0 0 [some (.ref 0), some (.int x), some (.ref 82), none] [] (hp c) _
    refine sw_aload_n dL_keep_0 rfl ?_
    refine sw_iconst (v := 0) dL_keep_1 (by decide) ?_
    refine sw_aload_n dL_keep_2 rfl ?_
    refine sw_iload_n dL_keep_3 rfl ?_
    refine sw_cV (M := m_L_keep) dL_keep_4 lv_L_97 m9 I.o rfl (by decide) rfl rfl rfl (Nat.le_of_ble_eq_true rfl) (fun _ _ => rfl) rfl ?_
    refine sw_if_eq (tgt := 14) dL_keep_7 (by decide) (fun q => ?_) (fun q => ?_)
    · rw [lj_b q]
      refine sw_lconst (v := 0) dL_keep_14 (by decide) ?_
      refine sw_last (vs := [.long a]) dL_keep_15 (hp_is 82 102 e82 (by decide) (by decide)) (by decide) (by show 0 < 1; decide) ?_
      refine sw_goto (tgt := 22) dL_keep_16 (by decide) ?_
      refine sw_iconst (v := 0) dL_keep_22 (by decide) ?_
      exact sw_ret (v := some (.int 0)) dL_keep_23 rt_i ⟨rfl, hp_set (by decide) (by decide)⟩
    · rw [lj_c q]
      refine sw_lconst (v := 1) dL_keep_10 (by decide) ?_
      refine sw_goto (tgt := 15) dL_keep_11 (by decide) ?_
      refine sw_last (vs := [.long a]) dL_keep_15 (hp_is 82 102 e82 (by decide) (by decide)) (by decide) (by show 0 < 1; decide) ?_
      refine sw_goto (tgt := 22) dL_keep_16 (by decide) ?_
      refine sw_iconst (v := 0) dL_keep_22 (by decide) ?_
      exact sw_ret (v := some (.int 0)) dL_keep_23 rt_i ⟨rfl, hp_set (by decide) (by decide)⟩
  · obtain ⟨w, rfl⟩ := vt_int (Or.inr rfl) hv
    obtain ⟨z, hz⟩ := I.m
    obtain ⟨a, g82⟩ := g82
    by_cases h1 : e = 2
    · subst h1
      refine ⟨1, w, c, c2, MS.of (by decide +kernel) (Nat.le_of_ble_eq_true rfl) cw_L_keep ?_, m10, th, by decide, I2, ⟨a, (b2 82 (by decide)).trans g82, fun q => (by cases q)⟩, b2 83 (by decide), z, hz⟩
      show SW none m_L_keep (d + 20 + 1) (0 + 1) (0 + 6) 0 [some (.ref 0), some (.int x), some (.ref 82), none] [] (hp c) _
      refine sw_aload_n dL_keep_0 rfl ?_
      refine sw_iconst (v := 0) dL_keep_1 (by decide) ?_
      refine sw_aload_n dL_keep_2 rfl ?_
      refine sw_iload_n dL_keep_3 rfl ?_
      refine sw_xV (M := m_L_keep) (rc := 0) (rs := 0) dL_keep_4 lv_L_97 m9 I.o rfl (by decide) rfl rfl rfl (Nat.le_of_ble_eq_true rfl) (fun _ _ => rfl) rfl ?_
      refine st_catch_n lc_L_keep_2 dL_keep_19 (by decide) rfl ?_
      refine sw_iconst (v := 1) dL_keep_20 (by decide) ?_
      exact sw_ret (v := some (.int 1)) dL_keep_21 rt_i ⟨rfl, rfl⟩
    · exact absurd (if_neg h1) hk
theorem h_restore {x : Int32} (I : INV c) (g82 : ∃ a, c 82 = [.long a]) (g83 : ∃ a, c 83 = [.double a]) : HP m_L_restore m_X10_restore (d + 20) [.int x] (fun y => if y = 0 then 0 else 1) c := by
  rcases p_restore (d := d) (x := x) I with ⟨c1, v, m9, hv, b1, k⟩ | ⟨e, c2, v, m9, hv, m10, th, hk, I2, b2⟩
  · obtain ⟨w, rfl⟩ := vt_int (Or.inr rfl) hv
    obtain ⟨a, g82⟩ := g82
    have e82 : c1 82 = [.long a] := (b1 82 (by decide)).trans g82
    obtain ⟨c2, m10, th, I2, b2⟩ := k (up1 c1 82 [.long (if w = 0 then 0 else 1)]) (fun i hi => up1_ne _ _ (by omega))
    obtain ⟨z, hz⟩ := I.m
    refine ⟨0, w, _, c2, MS.of (by decide +kernel) (Nat.le_of_ble_eq_true rfl) cw_L_restore ?_, m10, th, by decide, I2, ⟨(if w = 0 then 0 else 1), (b2 82 (by decide)).trans (up1_same _ _ _), fun _ => rfl⟩, (b2 83 (by decide)).trans ((up1_ne _ _ (by decide)).trans (b1 83 (by decide))), z, (up1_ne _ _ (by decide)).trans ((b1 70 (by decide)).trans hz)⟩
    refine sw_room (rc := 0) (rs := 0) (a := 1) (b := 6) ?_
    show SW none m_L_restore (d + 20 + 1) 0 0 0 [some (.ref 0), some (.int x), some (.ref 82), none] [] (hp c) _
    refine sw_aload_n dL_restore_0 rfl ?_
    refine sw_iconst (v := 0) dL_restore_1 (by decide) ?_
    refine sw_aload_n dL_restore_2 rfl ?_
    refine sw_iload_n dL_restore_3 rfl ?_
    refine sw_cV (M := m_L_restore) dL_restore_4 lv_L_101 m9 I.o rfl (by decide) rfl rfl rfl (Nat.le_of_ble_eq_true rfl) (fun _ _ => rfl) rfl ?_
    refine sw_if_eq (tgt := 14) dL_restore_7 (by decide) (fun q => ?_) (fun q => ?_)
    · rw [lj_b q]
      refine sw_lconst (v := 0) dL_restore_14 (by decide) ?_
      refine sw_last (vs := [.long a]) dL_restore_15 (hp_is 82 102 e82 (by decide) (by decide)) (by decide) (by show 0 < 1; decide) ?_
      refine sw_goto (tgt := 22) dL_restore_16 (by decide) ?_
      refine sw_iconst (v := 0) dL_restore_22 (by decide) ?_
      exact sw_ret (v := some (.int 0)) dL_restore_23 rt_i ⟨rfl, hp_set (by decide) (by decide)⟩
    · rw [lj_c q]
      refine sw_lconst (v := 1) dL_restore_10 (by decide) ?_
      refine sw_goto (tgt := 15) dL_restore_11 (by decide) ?_
      refine sw_last (vs := [.long a]) dL_restore_15 (hp_is 82 102 e82 (by decide) (by decide)) (by decide) (by show 0 < 1; decide) ?_
      refine sw_goto (tgt := 22) dL_restore_16 (by decide) ?_
      refine sw_iconst (v := 0) dL_restore_22 (by decide) ?_
      exact sw_ret (v := some (.int 0)) dL_restore_23 rt_i ⟨rfl, hp_set (by decide) (by decide)⟩
  · obtain ⟨w, rfl⟩ := vt_int (Or.inr rfl) hv
    obtain ⟨z, hz⟩ := I.m
    obtain ⟨a, g82⟩ := g82
    by_cases h1 : e = 2
    · subst h1
      refine ⟨1, w, c, c2, MS.of (by decide +kernel) (Nat.le_of_ble_eq_true rfl) cw_L_restore ?_, m10, th, by decide, I2, ⟨a, (b2 82 (by decide)).trans g82, fun q => (by cases q)⟩, b2 83 (by decide), z, hz⟩
      show SW none m_L_restore (d + 20 + 1) (0 + 1) (0 + 6) 0 [some (.ref 0), some (.int x), some (.ref 82), none] [] (hp c) _
      refine sw_aload_n dL_restore_0 rfl ?_
      refine sw_iconst (v := 0) dL_restore_1 (by decide) ?_
      refine sw_aload_n dL_restore_2 rfl ?_
      refine sw_iload_n dL_restore_3 rfl ?_
      refine sw_xV (M := m_L_restore) (rc := 0) (rs := 0) dL_restore_4 lv_L_101 m9 I.o rfl (by decide) rfl rfl rfl (Nat.le_of_ble_eq_true rfl) (fun _ _ => rfl) rfl ?_
      refine st_catch_n lc_L_restore_2 dL_restore_19 (by decide) rfl ?_
      refine sw_iconst (v := 1) dL_restore_20 (by decide) ?_
      exact sw_ret (v := some (.int 1)) dL_restore_21 rt_i ⟨rfl, rfl⟩
    · exact absurd (if_neg h1) hk
theorem h_account {x : Int32} (I : INV c) (g82 : ∃ a, c 82 = [.long a]) (g83 : ∃ a, c 83 = [.double a]) : HP m_L_account m_X10_account (d + 20) [.int x] (fun y => y.toInt64) c := by
  rcases p_account (d := d) (x := x) I with ⟨c1, v, m9, hv, b1, k⟩ | ⟨e, c2, v, m9, hv, m10, th, hk, I2, b2⟩
  · obtain ⟨w, rfl⟩ := vt_int (Or.inl rfl) hv
    obtain ⟨a, g82⟩ := g82
    have e82 : c1 82 = [.long a] := (b1 82 (by decide)).trans g82
    obtain ⟨c2, m10, th, I2, b2⟩ := k (up1 c1 82 [.long w.toInt64]) (fun i hi => up1_ne _ _ (by omega))
    obtain ⟨z, hz⟩ := I.m
    refine ⟨0, w, _, c2, MS.of (by decide +kernel) (Nat.le_of_ble_eq_true rfl) cw_L_account ?_, m10, th, by decide, I2, ⟨w.toInt64, (b2 82 (by decide)).trans (up1_same _ _ _), fun _ => rfl⟩, (b2 83 (by decide)).trans ((up1_ne _ _ (by decide)).trans (b1 83 (by decide))), z, (up1_ne _ _ (by decide)).trans ((b1 70 (by decide)).trans hz)⟩
    refine sw_room (rc := 0) (rs := 0) (a := 1) (b := 6) ?_
    show SW none m_L_account (d + 20 + 1) 0 0 0 [some (.ref 0), some (.int x), some (.ref 82), none] [] (hp c) _
    refine sw_aload_n dL_account_0 rfl ?_
    refine sw_iconst (v := 0) dL_account_1 (by decide) ?_
    refine sw_aload_n dL_account_2 rfl ?_
    refine sw_iload_n dL_account_3 rfl ?_
    refine sw_cV (M := m_L_account) dL_account_4 lv_L_104 m9 I.o rfl (by decide) rfl rfl rfl (Nat.le_of_ble_eq_true rfl) (fun _ _ => rfl) rfl ?_
    refine sw_i2l dL_account_7 ?_
    refine sw_last (vs := [.long a]) dL_account_8 (hp_is 82 102 e82 (by decide) (by decide)) (by decide) (by show 0 < 1; decide) ?_
    refine sw_goto (tgt := 15) dL_account_9 (by decide) ?_
    refine sw_iconst (v := 0) dL_account_15 (by decide) ?_
    exact sw_ret (v := some (.int 0)) dL_account_16 rt_i ⟨rfl, hp_set (by decide) (by decide)⟩
  · obtain ⟨w, rfl⟩ := vt_int (Or.inl rfl) hv
    obtain ⟨z, hz⟩ := I.m
    obtain ⟨a, g82⟩ := g82
    by_cases h1 : e = 2
    · subst h1
      refine ⟨1, w, c, c2, MS.of (by decide +kernel) (Nat.le_of_ble_eq_true rfl) cw_L_account ?_, m10, th, by decide, I2, ⟨a, (b2 82 (by decide)).trans g82, fun q => (by cases q)⟩, b2 83 (by decide), z, hz⟩
      show SW none m_L_account (d + 20 + 1) (0 + 1) (0 + 6) 0 [some (.ref 0), some (.int x), some (.ref 82), none] [] (hp c) _
      refine sw_aload_n dL_account_0 rfl ?_
      refine sw_iconst (v := 0) dL_account_1 (by decide) ?_
      refine sw_aload_n dL_account_2 rfl ?_
      refine sw_iload_n dL_account_3 rfl ?_
      refine sw_xV (M := m_L_account) (rc := 0) (rs := 0) dL_account_4 lv_L_104 m9 I.o rfl (by decide) rfl rfl rfl (Nat.le_of_ble_eq_true rfl) (fun _ _ => rfl) rfl ?_
      refine st_catch_n lc_L_account_2 dL_account_12 (by decide) rfl ?_
      refine sw_iconst (v := 1) dL_account_13 (by decide) ?_
      exact sw_ret (v := some (.int 1)) dL_account_14 rt_i ⟨rfl, rfl⟩
    · exact absurd (if_neg h1) hk
end
