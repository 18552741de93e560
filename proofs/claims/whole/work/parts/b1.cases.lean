abbrev m_L_law : ab_M := (yL_law, cL_law, 9, some .boolean, [])
/-- the law's places in its loop -/
abbrev LL (i : Nat) : List (Option Value) := [some (.retAddr 100), some (.ref 0), some (.ref 70), some (.ref 82), some (.ref 83), some (.int (nI i)), none, none, none]
section
variable {xs : List Int32} {sc : Option (List Int32)} {M N : ab_M} {d rc rs pc : Nat} {ls : List (Option Value)} {st : List Value} {h h2 : ab_H} {P : ab_O → ab_H → Prop} {c c' : Nat → List Value} {i : Nat}
/-- a number of the script onto the stack -/
theorem la {j : Nat} {jI : Int} {x : Int32} (d0 : decode M.2.1 pc = .ok (.aload_n 0, 1)) (d1 : decode M.2.1 (pc + 1) = .ok (.iload 5, 2)) (d2 : decode M.2.1 (pc + 1 + 2) = .ok (.iconst jI, 1)) (hj : Int32.ofInt jI = nI j) (d3 : decode M.2.1 (pc + 1 + 2 + 1) = .ok (.iadd, 1)) (d4 : decode M.2.1 (pc + 1 + 2 + 1 + 1) = .ok (.iaload, 1)) (h0 : ls[0]? = some (some (.retAddr 100))) (h5 : ls[5]? = some (some (.int (nI i)))) (hx : xs[i + j]? = some x) (hi : i + j < 2147483648) (k : SW (some xs) M d rc rs (pc + 1 + 2 + 1 + 1 + 1) ls (.int x :: st) h P) : SW (some xs) M d rc rs pc ls st h P := by
  refine sw_aload_nt d0 h0 (Or.inr (Or.inr ⟨rfl, fun q => by cases q⟩)) (sw_iload d1 h5 (sw_iconst d2 hj (sw_iadd d3 ?_)))
  rw [nI_add]
  exact sw_sld d4 (nI_pos hi) (by rw [cl_nI hi]; exact hx) k
theorem lw_cV {idx n r ci D : Nat} {fs : List Value} {q : vw_C} {v : Value} {As : List Value} (hd : decode M.2.1 pc = .ok (.invokevirtual idx, 3)) (hL : ab_LV M.1.cls idx N n) (hm : MSE N D (.ref r :: As) h (some v) h2) (hD : D + 1 ≤ d) (hrc : h[r]? = some (ci, fs)) (hcl : ab_cl[ci]? = some q) (hci : ci < 100) (hqn : q.1 = N.1.cls) (hn : As.length = n) {st1 : List Value} (hst : st1 = As.reverse ++ .ref r :: st) (hc : (st.map fun v => v.category).sum ≤ 8) (hr : ∀ σ τ, (st.map (ab_v σ τ)).map (fun v => v.category) = st.map fun v => v.category) (ha : ab_ac As = true)
    (k : SW sc M d rc rs (pc + 3) ls (v :: st) h2 P) : SW sc M d rc rs pc ls st1 h P :=
  sw_callV (mc := 0) (ms := 0) hd hL hm hrc hcl hci hqn hD hn hst hc hr (ab_ac_ok ha) (ab_ac_t ha) (fun w h1 e => by obtain ⟨e1, rfl⟩ := e; cases e1; exact k) (fun E h1 e => by cases e.1)
def ac1 : List Value → Bool
  | [] => true
  | .int _ :: l => ac1 l
  | .ref _ :: l => ac1 l
  | _ => false
theorem ac1_ok : ∀ {As : List Value}, ac1 As = true → ∀ (σ : Nat → Nat) (τ : Nat → Value) (v : Value), v ∈ As → (ab_v σ τ v).category = 1
  | [], _, _, _, _, hv => by cases hv
  | a :: l, h, σ, τ, v, hv => by
    cases a with
    | int x =>
      rcases List.mem_cons.mp hv with rfl | hm
      · rfl
      · exact ac1_ok (As := l) h σ τ v hm
    | ref x =>
      rcases List.mem_cons.mp hv with rfl | hm
      · rfl
      · exact ac1_ok (As := l) h σ τ v hm
    | _ => cases h
theorem lw_cX {idx n D kk : Nat} {As : List Value} (hd : decode M.2.1 pc = .ok (.invokestatic idx, 3)) (hL : ab_LX M.1.cls idx N n) (hm : MS N D 1 6 As h (fun o k => o = .inl (some (.int (nI kk))) ∧ k = h2)) (hD : D + 1 ≤ d) (hn : As.length = n) {st1 : List Value} (hst : st1 = As.reverse ++ st) (hc : (st.map fun v => v.category).sum ≤ 8) (hr : ∀ σ τ, (st.map (ab_v σ τ)).map (fun v => v.category) = st.map fun v => v.category) (ha : ac1 As = true) (k : SW sc M d rc rs (pc + 3) ls (.int (nI kk) :: st) h2 P) : SW sc M d (rc + 1) (rs + 6) pc ls st1 h P :=
  sw_callX hd hL hm hD hn hst hc hr (ac1_ok ha) (fun w h1 e => by obtain ⟨e1, rfl⟩ := e; cases e1; exact k) (fun E h1 e => by cases e.1)
theorem r_thrown {t : Nat} (T : TH c t) : MSE m_X10_thrown d [.ref 70] (hp c) (some (.int (nI t))) (hp c) := by
  obtain ⟨z, hz, h0⟩ := T
  exact e_X10_thrown (b_X10_thrown_0 (mo_H hz) (by rw [← h0]; rfl) ⟨rfl, rfl⟩)
theorem TH.m {t : Nat} (T : TH c t) : ∃ z, c 70 = moL z := by
  obtain ⟨z, hz, -⟩ := T
  exact ⟨z, hz⟩
theorem lgc (x : Int64) : lg_cmp x x = 0 := by
  unfold lg_cmp
  rw [if_neg (show ¬ x > x from fun h => by rw [gt_iff_lt, Int64.lt_iff_toInt_lt] at h; omega), if_pos rfl]

theorem lc_0 (I : INV c) (g82 : ∃ a, c 82 = [.long a]) (g83 : ∃ a, c 83 = [.double a]) (X : ∀ j, j < 6 → ∃ x, xs[i + j]? = some x) (hi : i < 5000) (K : ∀ c', INV c' → (∃ a, c' 82 = [.long a]) → (∃ a, c' 83 = [.double a]) → SW (some xs) m_L_law (d + 22) rc rs 2148 (LL i) [] (hp c') P) : SW (some xs) m_L_law (d + 22) (rc + 1) (rs + 6) 200 (LL i) [] (hp c) P := by
  obtain ⟨x1, hx1⟩ := X 1 (by decide)
  obtain ⟨x2, hx2⟩ := X 2 (by decide)
  obtain ⟨x3, hx3⟩ := X 3 (by decide)
  obtain ⟨x4, hx4⟩ := X 4 (by decide)
  obtain ⟨x5, hx5⟩ := X 5 (by decide)
  obtain ⟨a82, g82⟩ := g82
  obtain ⟨a83, g83⟩ := g83
  refine sw_room ?_
  rcases p_append (d := d) (x1 := x1) (x2 := x2) (x3 := x3) (x4 := x4) (x5 := x5) I with ⟨c1, v, m9, hv, b1, k⟩ | ⟨e, c2, v, m9, hv, m10, th, hk, I2, b2⟩
  · obtain ⟨y, rfl⟩ := vt_int (Or.inl rfl) hv
    obtain ⟨c2, m10, th, I2, b2⟩ := k c1 (fun _ _ => rfl)
    obtain ⟨z, hz⟩ := I.m
    have hz1 : c1 70 = moL z := (b1 70 (by decide)).trans hz
    refine sw_aload_n dL_law_200 rfl ?_
    refine la (M := m_L_law) (j := 1) dL_law_201 dL_law_202 dL_law_204 (by decide) dL_law_205 dL_law_206 rfl rfl hx1 (by omega) ?_
    refine la (M := m_L_law) (j := 2) dL_law_207 dL_law_208 dL_law_210 (by decide) dL_law_211 dL_law_212 rfl rfl hx2 (by omega) ?_
    refine la (M := m_L_law) (j := 3) dL_law_213 dL_law_214 dL_law_216 (by decide) dL_law_217 dL_law_218 rfl rfl hx3 (by omega) ?_
    refine la (M := m_L_law) (j := 4) dL_law_219 dL_law_220 dL_law_222 (by decide) dL_law_223 dL_law_224 rfl rfl hx4 (by omega) ?_
    refine la (M := m_L_law) (j := 5) dL_law_225 dL_law_226 dL_law_228 (by decide) dL_law_229 dL_law_230 rfl rfl hx5 (by omega) ?_
    refine lw_cV (M := m_L_law) (D := d + 20) (v := .int y) dL_law_231 lv_L_111 m9 (by omega) I.o rfl (by decide) rfl rfl rfl (Nat.le_of_ble_eq_true rfl) (fun _ _ => rfl) rfl ?_
    refine sw_aload_n dL_law_234 rfl ?_
    refine la (M := m_L_law) (j := 1) dL_law_235 dL_law_236 dL_law_238 (by decide) dL_law_239 dL_law_240 rfl rfl hx1 (by omega) ?_
    refine la (M := m_L_law) (j := 2) dL_law_241 dL_law_242 dL_law_244 (by decide) dL_law_245 dL_law_246 rfl rfl hx2 (by omega) ?_
    refine la (M := m_L_law) (j := 3) dL_law_247 dL_law_248 dL_law_250 (by decide) dL_law_251 dL_law_252 rfl rfl hx3 (by omega) ?_
    refine la (M := m_L_law) (j := 4) dL_law_253 dL_law_254 dL_law_256 (by decide) dL_law_257 dL_law_258 rfl rfl hx4 (by omega) ?_
    refine la (M := m_L_law) (j := 5) dL_law_259 dL_law_260 dL_law_262 (by decide) dL_law_263 dL_law_264 rfl rfl hx5 (by omega) ?_
    refine lw_cV (M := m_L_law) (D := d + 20) (v := .int y) dL_law_265 lv_L_115 m10 (by omega) (mo_H hz1) rfl (by decide) rfl rfl rfl (Nat.le_of_ble_eq_true rfl) (fun _ _ => rfl) rfl ?_
    exact sw_icmp_eq (tgt := 2148) dL_law_268 (by decide) (fun _ => K c2 I2 ⟨_, (b2 82 (by decide)).trans ((b1 82 (by decide)).trans g82)⟩ ⟨_, (b2 83 (by decide)).trans ((b1 83 (by decide)).trans g83)⟩) (fun q => absurd rfl q)
  · exact absurd rfl hk
theorem lc_1 (I : INV c) (g82 : ∃ a, c 82 = [.long a]) (g83 : ∃ a, c 83 = [.double a]) (X : ∀ j, j < 6 → ∃ x, xs[i + j]? = some x) (hi : i < 5000) (K : ∀ c', INV c' → (∃ a, c' 82 = [.long a]) → (∃ a, c' 83 = [.double a]) → SW (some xs) m_L_law (d + 22) rc rs 2148 (LL i) [] (hp c') P) : SW (some xs) m_L_law (d + 22) (rc + 1) (rs + 6) 273 (LL i) [] (hp c) P := by
  obtain ⟨x1, hx1⟩ := X 1 (by decide)
  obtain ⟨a82, g82⟩ := g82
  obtain ⟨a83, g83⟩ := g83
  refine sw_room ?_
  rcases p_truncate (d := d) (x := x1) I with ⟨c1, v, m9, hv, b1, k⟩ | ⟨e, c2, v, m9, hv, m10, th, hk, I2, b2⟩
  · obtain ⟨y, rfl⟩ := vt_int (Or.inr rfl) hv
    obtain ⟨c2, m10, th, I2, b2⟩ := k c1 (fun _ _ => rfl)
    obtain ⟨z, hz⟩ := I.m
    have hz1 : c1 70 = moL z := (b1 70 (by decide)).trans hz
    refine sw_aload_n dL_law_273 rfl ?_
    refine la (M := m_L_law) (j := 1) dL_law_274 dL_law_275 dL_law_277 (by decide) dL_law_278 dL_law_279 rfl rfl hx1 (by omega) ?_
    refine lw_cV (M := m_L_law) (D := d + 20) (v := .int y) dL_law_280 lv_L_116 m9 (by omega) I.o rfl (by decide) rfl rfl rfl (Nat.le_of_ble_eq_true rfl) (fun _ _ => rfl) rfl ?_
    refine sw_aload_n dL_law_283 rfl ?_
    refine la (M := m_L_law) (j := 1) dL_law_284 dL_law_285 dL_law_287 (by decide) dL_law_288 dL_law_289 rfl rfl hx1 (by omega) ?_
    refine lw_cV (M := m_L_law) (D := d + 20) (v := .int y) dL_law_290 lv_L_119 m10 (by omega) (mo_H hz1) rfl (by decide) rfl rfl rfl (Nat.le_of_ble_eq_true rfl) (fun _ _ => rfl) rfl ?_
    exact sw_icmp_eq (tgt := 2148) dL_law_293 (by decide) (fun _ => K c2 I2 ⟨_, (b2 82 (by decide)).trans ((b1 82 (by decide)).trans g82)⟩ ⟨_, (b2 83 (by decide)).trans ((b1 83 (by decide)).trans g83)⟩) (fun q => absurd rfl q)
  · exact absurd rfl hk
theorem lc_2 (I : INV c) (g82 : ∃ a, c 82 = [.long a]) (g83 : ∃ a, c 83 = [.double a]) (X : ∀ j, j < 6 → ∃ x, xs[i + j]? = some x) (hi : i < 5000) (K : ∀ c', INV c' → (∃ a, c' 82 = [.long a]) → (∃ a, c' 83 = [.double a]) → SW (some xs) m_L_law (d + 22) rc rs 2148 (LL i) [] (hp c') P) : SW (some xs) m_L_law (d + 22) (rc + 1) (rs + 6) 298 (LL i) [] (hp c) P := by
  obtain ⟨a82, g82⟩ := g82
  obtain ⟨a83, g83⟩ := g83
  refine sw_room ?_
  rcases p_bufferLength (d := d)  I with ⟨c1, v, m9, hv, b1, k⟩ | ⟨e, c2, v, m9, hv, m10, th, hk, I2, b2⟩
  · obtain ⟨y, rfl⟩ := vt_int (Or.inl rfl) hv
    obtain ⟨c2, m10, th, I2, b2⟩ := k c1 (fun _ _ => rfl)
    obtain ⟨z, hz⟩ := I.m
    have hz1 : c1 70 = moL z := (b1 70 (by decide)).trans hz
    refine sw_aload_n dL_law_298 rfl ?_
    refine lw_cV (M := m_L_law) (D := d + 20) (v := .int y) dL_law_299 lv_L_120 m9 (by omega) I.o rfl (by decide) rfl rfl rfl (Nat.le_of_ble_eq_true rfl) (fun _ _ => rfl) rfl ?_
    refine sw_aload_n dL_law_302 rfl ?_
    refine lw_cV (M := m_L_law) (D := d + 20) (v := .int y) dL_law_303 lv_L_123 m10 (by omega) (mo_H hz1) rfl (by decide) rfl rfl rfl (Nat.le_of_ble_eq_true rfl) (fun _ _ => rfl) rfl ?_
    exact sw_icmp_eq (tgt := 2148) dL_law_306 (by decide) (fun _ => K c2 I2 ⟨_, (b2 82 (by decide)).trans ((b1 82 (by decide)).trans g82)⟩ ⟨_, (b2 83 (by decide)).trans ((b1 83 (by decide)).trans g83)⟩) (fun q => absurd rfl q)
  · exact absurd rfl hk
theorem lc_3 (I : INV c) (g82 : ∃ a, c 82 = [.long a]) (g83 : ∃ a, c 83 = [.double a]) (X : ∀ j, j < 6 → ∃ x, xs[i + j]? = some x) (hi : i < 5000) (K : ∀ c', INV c' → (∃ a, c' 82 = [.long a]) → (∃ a, c' 83 = [.double a]) → SW (some xs) m_L_law (d + 22) rc rs 2148 (LL i) [] (hp c') P) : SW (some xs) m_L_law (d + 22) (rc + 1) (rs + 6) 311 (LL i) [] (hp c) P := by
  obtain ⟨a82, g82⟩ := g82
  obtain ⟨a83, g83⟩ := g83
  refine sw_room ?_
  rcases p_load (d := d)  I with ⟨c1, v, m9, hv, b1, k⟩ | ⟨e, c2, v, m9, hv, m10, th, hk, I2, b2⟩
  · obtain ⟨y, rfl⟩ := vt_int (Or.inl rfl) hv
    obtain ⟨c2, m10, th, I2, b2⟩ := k c1 (fun _ _ => rfl)
    obtain ⟨z, hz⟩ := I.m
    have hz1 : c1 70 = moL z := (b1 70 (by decide)).trans hz
    refine sw_aload_n dL_law_311 rfl ?_
    refine lw_cV (M := m_L_law) (D := d + 20) (v := .int y) dL_law_312 lv_L_124 m9 (by omega) I.o rfl (by decide) rfl rfl rfl (Nat.le_of_ble_eq_true rfl) (fun _ _ => rfl) rfl ?_
    refine sw_aload_n dL_law_315 rfl ?_
    refine lw_cV (M := m_L_law) (D := d + 20) (v := .int y) dL_law_316 lv_L_127 m10 (by omega) (mo_H hz1) rfl (by decide) rfl rfl rfl (Nat.le_of_ble_eq_true rfl) (fun _ _ => rfl) rfl ?_
    exact sw_icmp_eq (tgt := 2148) dL_law_319 (by decide) (fun _ => K c2 I2 ⟨_, (b2 82 (by decide)).trans ((b1 82 (by decide)).trans g82)⟩ ⟨_, (b2 83 (by decide)).trans ((b1 83 (by decide)).trans g83)⟩) (fun q => absurd rfl q)
  · exact absurd rfl hk
theorem lc_4 (I : INV c) (g82 : ∃ a, c 82 = [.long a]) (g83 : ∃ a, c 83 = [.double a]) (X : ∀ j, j < 6 → ∃ x, xs[i + j]? = some x) (hi : i < 5000) (K : ∀ c', INV c' → (∃ a, c' 82 = [.long a]) → (∃ a, c' 83 = [.double a]) → SW (some xs) m_L_law (d + 22) rc rs 2148 (LL i) [] (hp c') P) : SW (some xs) m_L_law (d + 22) (rc + 1) (rs + 6) 324 (LL i) [] (hp c) P := by
  obtain ⟨x1, hx1⟩ := X 1 (by decide)
  obtain ⟨a82, g82⟩ := g82
  obtain ⟨a83, g83⟩ := g83
  refine sw_room ?_
  rcases p_forest (d := d) (x := x1) I with ⟨c1, v, m9, hv, b1, k⟩ | ⟨e, c2, v, m9, hv, m10, th, hk, I2, b2⟩
  · obtain ⟨y, rfl⟩ := vt_int (Or.inl rfl) hv
    obtain ⟨c2, m10, th, I2, b2⟩ := k c1 (fun _ _ => rfl)
    obtain ⟨z, hz⟩ := I.m
    have hz1 : c1 70 = moL z := (b1 70 (by decide)).trans hz
    refine sw_aload_n dL_law_324 rfl ?_
    refine la (M := m_L_law) (j := 1) dL_law_325 dL_law_326 dL_law_328 (by decide) dL_law_329 dL_law_330 rfl rfl hx1 (by omega) ?_
    refine lw_cV (M := m_L_law) (D := d + 20) (v := .int y) dL_law_331 lv_L_128 m9 (by omega) I.o rfl (by decide) rfl rfl rfl (Nat.le_of_ble_eq_true rfl) (fun _ _ => rfl) rfl ?_
    refine sw_aload_n dL_law_334 rfl ?_
    refine la (M := m_L_law) (j := 1) dL_law_335 dL_law_336 dL_law_338 (by decide) dL_law_339 dL_law_340 rfl rfl hx1 (by omega) ?_
    refine lw_cV (M := m_L_law) (D := d + 20) (v := .int y) dL_law_341 lv_L_131 m10 (by omega) (mo_H hz1) rfl (by decide) rfl rfl rfl (Nat.le_of_ble_eq_true rfl) (fun _ _ => rfl) rfl ?_
    exact sw_icmp_eq (tgt := 2148) dL_law_344 (by decide) (fun _ => K c2 I2 ⟨_, (b2 82 (by decide)).trans ((b1 82 (by decide)).trans g82)⟩ ⟨_, (b2 83 (by decide)).trans ((b1 83 (by decide)).trans g83)⟩) (fun q => absurd rfl q)
  · exact absurd rfl hk
theorem lc_5 (I : INV c) (g82 : ∃ a, c 82 = [.long a]) (g83 : ∃ a, c 83 = [.double a]) (X : ∀ j, j < 6 → ∃ x, xs[i + j]? = some x) (hi : i < 5000) (K : ∀ c', INV c' → (∃ a, c' 82 = [.long a]) → (∃ a, c' 83 = [.double a]) → SW (some xs) m_L_law (d + 22) rc rs 2148 (LL i) [] (hp c') P) : SW (some xs) m_L_law (d + 22) (rc + 1) (rs + 6) 349 (LL i) [] (hp c) P := by
  obtain ⟨x1, hx1⟩ := X 1 (by decide)
  obtain ⟨x2, hx2⟩ := X 2 (by decide)
  obtain ⟨kk, y, c1, c2, mh, m10, th, hk5, I2, ⟨b, f82, hb⟩, f83, z1, hz1⟩ := h_vertex (d := d) (x := x1) (y := x2) I g82 g83
  obtain ⟨a83, g83⟩ := g83
  rw [g83] at f83
  obtain ⟨z2, hz2⟩ := th.m
  refine sw_aload_n dL_law_349 rfl ?_
  refine la (M := m_L_law) (j := 1) dL_law_350 dL_law_351 dL_law_353 (by decide) dL_law_354 dL_law_355 rfl rfl hx1 (by omega) ?_
  refine la (M := m_L_law) (j := 2) dL_law_356 dL_law_357 dL_law_359 (by decide) dL_law_360 dL_law_361 rfl rfl hx2 (by omega) ?_
  refine sw_aload_n dL_law_362 rfl ?_
  refine lw_cX (M := m_L_law) (D := d + 20 + 1) dL_law_363 lx_L_132 mh (by omega) rfl rfl (Nat.le_of_ble_eq_true rfl) (fun _ _ => rfl) rfl ?_
  refine sw_istore dL_law_366 (by decide) rfl ?_
  refine sw_aload_n dL_law_368 rfl ?_
  refine la (M := m_L_law) (j := 1) dL_law_369 dL_law_370 dL_law_372 (by decide) dL_law_373 dL_law_374 rfl rfl hx1 (by omega) ?_
  refine la (M := m_L_law) (j := 2) dL_law_375 dL_law_376 dL_law_378 (by decide) dL_law_379 dL_law_380 rfl rfl hx2 (by omega) ?_
  refine lw_cV (M := m_L_law) (D := d + 20) (v := .int y) dL_law_381 lv_L_137 m10 (by omega) (mo_H hz1) rfl (by decide) rfl rfl rfl (Nat.le_of_ble_eq_true rfl) (fun _ _ => rfl) rfl ?_
  refine sw_istore dL_law_384 (by decide) rfl ?_
  refine sw_aload_n dL_law_386 rfl ?_
  refine lw_cV (M := m_L_law) (D := d + 20) (v := .int (nI kk)) dL_law_387 lv_L_138 (r_thrown th) (by omega) (mo_H hz2) rfl (by decide) rfl rfl rfl (Nat.le_of_ble_eq_true rfl) (fun _ _ => rfl) rfl ?_
  refine sw_iload dL_law_390 rfl ?_
  refine sw_icmp_eq (tgt := 397) dL_law_392 (by decide) (fun _ => ?_) (fun q => absurd rfl q)
  refine sw_iload dL_law_397 rfl ?_
  refine sw_if_ne (tgt := 414) dL_law_399 (by decide) (fun q => sw_goto (tgt := 2148) dL_law_414 (by decide) (sw_fg [false, false, false, false, false, false, true, true, true] rfl (K c2 I2 ⟨_, f82⟩ ⟨_, f83⟩))) (fun q => ?_)
  have k0 : kk = 0 := (i_eq0 (by omega)).mp q
  have hb := hb k0
  subst hb
  refine sw_aload_n dL_law_402 rfl ?_
  refine sw_iconst (v := 0) dL_law_403 (by decide) ?_
  refine sw_lald dL_law_404 (hp_is 82 102 f82 (by decide) (by decide)) (by decide) rfl ?_
  refine sw_iload dL_law_405 rfl ?_
  refine sw_i2l dL_law_407 ?_
  refine sw_lcmp dL_law_408 ?_
  exact sw_if_eq (tgt := 414) dL_law_409 (by decide) (fun _ => sw_goto (tgt := 2148) dL_law_414 (by decide) (sw_fg [false, false, false, false, false, false, true, true, true] rfl (K c2 I2 ⟨_, f82⟩ ⟨_, f83⟩))) (fun q => absurd (lgc _) q)
theorem lc_6 (I : INV c) (g82 : ∃ a, c 82 = [.long a]) (g83 : ∃ a, c 83 = [.double a]) (X : ∀ j, j < 6 → ∃ x, xs[i + j]? = some x) (hi : i < 5000) (K : ∀ c', INV c' → (∃ a, c' 82 = [.long a]) → (∃ a, c' 83 = [.double a]) → SW (some xs) m_L_law (d + 22) rc rs 2148 (LL i) [] (hp c') P) : SW (some xs) m_L_law (d + 22) (rc + 1) (rs + 6) 417 (LL i) [] (hp c) P := by
  obtain ⟨x1, hx1⟩ := X 1 (by decide)
  obtain ⟨x2, hx2⟩ := X 2 (by decide)
  obtain ⟨kk, y, c1, c2, mh, m10, th, hk5, I2, ⟨b, f82, hb⟩, f83, z1, hz1⟩ := h_component (d := d) (x := x1) (y := x2) I g82 g83
  obtain ⟨a83, g83⟩ := g83
  rw [g83] at f83
  obtain ⟨z2, hz2⟩ := th.m
  refine sw_aload_n dL_law_417 rfl ?_
  refine la (M := m_L_law) (j := 1) dL_law_418 dL_law_419 dL_law_421 (by decide) dL_law_422 dL_law_423 rfl rfl hx1 (by omega) ?_
  refine la (M := m_L_law) (j := 2) dL_law_424 dL_law_425 dL_law_427 (by decide) dL_law_428 dL_law_429 rfl rfl hx2 (by omega) ?_
  refine sw_aload_n dL_law_430 rfl ?_
  refine lw_cX (M := m_L_law) (D := d + 20 + 1) dL_law_431 lx_L_141 mh (by omega) rfl rfl (Nat.le_of_ble_eq_true rfl) (fun _ _ => rfl) rfl ?_
  refine sw_istore dL_law_434 (by decide) rfl ?_
  refine sw_aload_n dL_law_436 rfl ?_
  refine la (M := m_L_law) (j := 1) dL_law_437 dL_law_438 dL_law_440 (by decide) dL_law_441 dL_law_442 rfl rfl hx1 (by omega) ?_
  refine la (M := m_L_law) (j := 2) dL_law_443 dL_law_444 dL_law_446 (by decide) dL_law_447 dL_law_448 rfl rfl hx2 (by omega) ?_
  refine lw_cV (M := m_L_law) (D := d + 20) (v := .int y) dL_law_449 lv_L_143 m10 (by omega) (mo_H hz1) rfl (by decide) rfl rfl rfl (Nat.le_of_ble_eq_true rfl) (fun _ _ => rfl) rfl ?_
  refine sw_istore dL_law_452 (by decide) rfl ?_
  refine sw_aload_n dL_law_454 rfl ?_
  refine lw_cV (M := m_L_law) (D := d + 20) (v := .int (nI kk)) dL_law_455 lv_L_138 (r_thrown th) (by omega) (mo_H hz2) rfl (by decide) rfl rfl rfl (Nat.le_of_ble_eq_true rfl) (fun _ _ => rfl) rfl ?_
  refine sw_iload dL_law_458 rfl ?_
  refine sw_icmp_eq (tgt := 465) dL_law_460 (by decide) (fun _ => ?_) (fun q => absurd rfl q)
  refine sw_iload dL_law_465 rfl ?_
  refine sw_if_ne (tgt := 482) dL_law_467 (by decide) (fun q => sw_goto (tgt := 2148) dL_law_482 (by decide) (sw_fg [false, false, false, false, false, false, true, true, true] rfl (K c2 I2 ⟨_, f82⟩ ⟨_, f83⟩))) (fun q => ?_)
  have k0 : kk = 0 := (i_eq0 (by omega)).mp q
  have hb := hb k0
  subst hb
  refine sw_aload_n dL_law_470 rfl ?_
  refine sw_iconst (v := 0) dL_law_471 (by decide) ?_
  refine sw_lald dL_law_472 (hp_is 82 102 f82 (by decide) (by decide)) (by decide) rfl ?_
  refine sw_iload dL_law_473 rfl ?_
  refine sw_i2l dL_law_475 ?_
  refine sw_lcmp dL_law_476 ?_
  exact sw_if_eq (tgt := 482) dL_law_477 (by decide) (fun _ => sw_goto (tgt := 2148) dL_law_482 (by decide) (sw_fg [false, false, false, false, false, false, true, true, true] rfl (K c2 I2 ⟨_, f82⟩ ⟨_, f83⟩))) (fun q => absurd (lgc _) q)
theorem lc_7 (I : INV c) (g82 : ∃ a, c 82 = [.long a]) (g83 : ∃ a, c 83 = [.double a]) (X : ∀ j, j < 6 → ∃ x, xs[i + j]? = some x) (hi : i < 5000) (K : ∀ c', INV c' → (∃ a, c' 82 = [.long a]) → (∃ a, c' 83 = [.double a]) → SW (some xs) m_L_law (d + 22) rc rs 2148 (LL i) [] (hp c') P) : SW (some xs) m_L_law (d + 22) (rc + 1) (rs + 6) 485 (LL i) [] (hp c) P := by
  obtain ⟨x1, hx1⟩ := X 1 (by decide)
  obtain ⟨x2, hx2⟩ := X 2 (by decide)
  obtain ⟨kk, y, c1, c2, mh, m10, th, hk5, I2, ⟨b, f82, hb⟩, f83, z1, hz1⟩ := h_distance (d := d) (x := x1) (y := x2) I g82 g83
  obtain ⟨a83, g83⟩ := g83
  rw [g83] at f83
  obtain ⟨z2, hz2⟩ := th.m
  refine sw_aload_n dL_law_485 rfl ?_
  refine la (M := m_L_law) (j := 1) dL_law_486 dL_law_487 dL_law_489 (by decide) dL_law_490 dL_law_491 rfl rfl hx1 (by omega) ?_
  refine la (M := m_L_law) (j := 2) dL_law_492 dL_law_493 dL_law_495 (by decide) dL_law_496 dL_law_497 rfl rfl hx2 (by omega) ?_
  refine sw_aload_n dL_law_498 rfl ?_
  refine lw_cX (M := m_L_law) (D := d + 20 + 1) dL_law_499 lx_L_144 mh (by omega) rfl rfl (Nat.le_of_ble_eq_true rfl) (fun _ _ => rfl) rfl ?_
  refine sw_istore dL_law_502 (by decide) rfl ?_
  refine sw_aload_n dL_law_504 rfl ?_
  refine la (M := m_L_law) (j := 1) dL_law_505 dL_law_506 dL_law_508 (by decide) dL_law_509 dL_law_510 rfl rfl hx1 (by omega) ?_
  refine la (M := m_L_law) (j := 2) dL_law_511 dL_law_512 dL_law_514 (by decide) dL_law_515 dL_law_516 rfl rfl hx2 (by omega) ?_
  refine lw_cV (M := m_L_law) (D := d + 20) (v := .int y) dL_law_517 lv_L_146 m10 (by omega) (mo_H hz1) rfl (by decide) rfl rfl rfl (Nat.le_of_ble_eq_true rfl) (fun _ _ => rfl) rfl ?_
  refine sw_istore dL_law_520 (by decide) rfl ?_
  refine sw_aload_n dL_law_522 rfl ?_
  refine lw_cV (M := m_L_law) (D := d + 20) (v := .int (nI kk)) dL_law_523 lv_L_138 (r_thrown th) (by omega) (mo_H hz2) rfl (by decide) rfl rfl rfl (Nat.le_of_ble_eq_true rfl) (fun _ _ => rfl) rfl ?_
  refine sw_iload dL_law_526 rfl ?_
  refine sw_icmp_eq (tgt := 533) dL_law_528 (by decide) (fun _ => ?_) (fun q => absurd rfl q)
  refine sw_iload dL_law_533 rfl ?_
  refine sw_if_ne (tgt := 550) dL_law_535 (by decide) (fun q => sw_goto (tgt := 2148) dL_law_550 (by decide) (sw_fg [false, false, false, false, false, false, true, true, true] rfl (K c2 I2 ⟨_, f82⟩ ⟨_, f83⟩))) (fun q => ?_)
  have k0 : kk = 0 := (i_eq0 (by omega)).mp q
  have hb := hb k0
  subst hb
  refine sw_aload_n dL_law_538 rfl ?_
  refine sw_iconst (v := 0) dL_law_539 (by decide) ?_
  refine sw_lald dL_law_540 (hp_is 82 102 f82 (by decide) (by decide)) (by decide) rfl ?_
  refine sw_iload dL_law_541 rfl ?_
  refine sw_i2l dL_law_543 ?_
  refine sw_lcmp dL_law_544 ?_
  exact sw_if_eq (tgt := 550) dL_law_545 (by decide) (fun _ => sw_goto (tgt := 2148) dL_law_550 (by decide) (sw_fg [false, false, false, false, false, false, true, true, true] rfl (K c2 I2 ⟨_, f82⟩ ⟨_, f83⟩))) (fun q => absurd (lgc _) q)
theorem lc_8 (I : INV c) (g82 : ∃ a, c 82 = [.long a]) (g83 : ∃ a, c 83 = [.double a]) (X : ∀ j, j < 6 → ∃ x, xs[i + j]? = some x) (hi : i < 5000) (K : ∀ c', INV c' → (∃ a, c' 82 = [.long a]) → (∃ a, c' 83 = [.double a]) → SW (some xs) m_L_law (d + 22) rc rs 2148 (LL i) [] (hp c') P) : SW (some xs) m_L_law (d + 22) (rc + 1) (rs + 6) 553 (LL i) [] (hp c) P := by
  obtain ⟨x1, hx1⟩ := X 1 (by decide)
  obtain ⟨x2, hx2⟩ := X 2 (by decide)
  obtain ⟨x3, hx3⟩ := X 3 (by decide)
  obtain ⟨kk, y, c1, c2, mh, m10, th, hk5, I2, ⟨b, f82, hb⟩, f83, z1, hz1⟩ := h_onPath (d := d) (x := x1) (y := x2) (u := x3) I g82 g83
  obtain ⟨a83, g83⟩ := g83
  rw [g83] at f83
  obtain ⟨z2, hz2⟩ := th.m
  refine sw_aload_n dL_law_553 rfl ?_
  refine la (M := m_L_law) (j := 1) dL_law_554 dL_law_555 dL_law_557 (by decide) dL_law_558 dL_law_559 rfl rfl hx1 (by omega) ?_
  refine la (M := m_L_law) (j := 2) dL_law_560 dL_law_561 dL_law_563 (by decide) dL_law_564 dL_law_565 rfl rfl hx2 (by omega) ?_
  refine la (M := m_L_law) (j := 3) dL_law_566 dL_law_567 dL_law_569 (by decide) dL_law_570 dL_law_571 rfl rfl hx3 (by omega) ?_
  refine sw_aload_n dL_law_572 rfl ?_
  refine lw_cX (M := m_L_law) (D := d + 20 + 1) dL_law_573 lx_L_147 mh (by omega) rfl rfl (Nat.le_of_ble_eq_true rfl) (fun _ _ => rfl) rfl ?_
  refine sw_istore dL_law_576 (by decide) rfl ?_
  refine sw_aload_n dL_law_578 rfl ?_
  refine la (M := m_L_law) (j := 1) dL_law_579 dL_law_580 dL_law_582 (by decide) dL_law_583 dL_law_584 rfl rfl hx1 (by omega) ?_
  refine la (M := m_L_law) (j := 2) dL_law_585 dL_law_586 dL_law_588 (by decide) dL_law_589 dL_law_590 rfl rfl hx2 (by omega) ?_
  refine la (M := m_L_law) (j := 3) dL_law_591 dL_law_592 dL_law_594 (by decide) dL_law_595 dL_law_596 rfl rfl hx3 (by omega) ?_
  refine lw_cV (M := m_L_law) (D := d + 20) (v := .int y) dL_law_597 lv_L_150 m10 (by omega) (mo_H hz1) rfl (by decide) rfl rfl rfl (Nat.le_of_ble_eq_true rfl) (fun _ _ => rfl) rfl ?_
  refine sw_istore dL_law_600 (by decide) rfl ?_
  refine sw_aload_n dL_law_602 rfl ?_
  refine lw_cV (M := m_L_law) (D := d + 20) (v := .int (nI kk)) dL_law_603 lv_L_138 (r_thrown th) (by omega) (mo_H hz2) rfl (by decide) rfl rfl rfl (Nat.le_of_ble_eq_true rfl) (fun _ _ => rfl) rfl ?_
  refine sw_iload dL_law_606 rfl ?_
  refine sw_icmp_eq (tgt := 613) dL_law_608 (by decide) (fun _ => ?_) (fun q => absurd rfl q)
  refine sw_iload dL_law_613 rfl ?_
  refine sw_if_ne (tgt := 630) dL_law_615 (by decide) (fun q => sw_goto (tgt := 2148) dL_law_630 (by decide) (sw_fg [false, false, false, false, false, false, true, true, true] rfl (K c2 I2 ⟨_, f82⟩ ⟨_, f83⟩))) (fun q => ?_)
  have k0 : kk = 0 := (i_eq0 (by omega)).mp q
  have hb := hb k0
  subst hb
  refine sw_aload_n dL_law_618 rfl ?_
  refine sw_iconst (v := 0) dL_law_619 (by decide) ?_
  refine sw_lald dL_law_620 (hp_is 82 102 f82 (by decide) (by decide)) (by decide) rfl ?_
  refine sw_iload dL_law_621 rfl ?_
  refine sw_i2l dL_law_623 ?_
  refine sw_lcmp dL_law_624 ?_
  exact sw_if_eq (tgt := 630) dL_law_625 (by decide) (fun _ => sw_goto (tgt := 2148) dL_law_630 (by decide) (sw_fg [false, false, false, false, false, false, true, true, true] rfl (K c2 I2 ⟨_, f82⟩ ⟨_, f83⟩))) (fun q => absurd (lgc _) q)
theorem lc_9 (I : INV c) (g82 : ∃ a, c 82 = [.long a]) (g83 : ∃ a, c 83 = [.double a]) (X : ∀ j, j < 6 → ∃ x, xs[i + j]? = some x) (hi : i < 5000) (K : ∀ c', INV c' → (∃ a, c' 82 = [.long a]) → (∃ a, c' 83 = [.double a]) → SW (some xs) m_L_law (d + 22) rc rs 2148 (LL i) [] (hp c') P) : SW (some xs) m_L_law (d + 22) (rc + 1) (rs + 6) 633 (LL i) [] (hp c) P := by
  obtain ⟨x1, hx1⟩ := X 1 (by decide)
  obtain ⟨x2, hx2⟩ := X 2 (by decide)
  obtain ⟨x3, hx3⟩ := X 3 (by decide)
  obtain ⟨kk, y, c1, c2, mh, m10, th, hk5, I2, ⟨b, f82, hb⟩, f83, z1, hz1⟩ := h_median (d := d) (x := x1) (y := x2) (u := x3) I g82 g83
  obtain ⟨a83, g83⟩ := g83
  rw [g83] at f83
  obtain ⟨z2, hz2⟩ := th.m
  refine sw_aload_n dL_law_633 rfl ?_
  refine la (M := m_L_law) (j := 1) dL_law_634 dL_law_635 dL_law_637 (by decide) dL_law_638 dL_law_639 rfl rfl hx1 (by omega) ?_
  refine la (M := m_L_law) (j := 2) dL_law_640 dL_law_641 dL_law_643 (by decide) dL_law_644 dL_law_645 rfl rfl hx2 (by omega) ?_
  refine la (M := m_L_law) (j := 3) dL_law_646 dL_law_647 dL_law_649 (by decide) dL_law_650 dL_law_651 rfl rfl hx3 (by omega) ?_
  refine sw_aload_n dL_law_652 rfl ?_
  refine lw_cX (M := m_L_law) (D := d + 20 + 1) dL_law_653 lx_L_151 mh (by omega) rfl rfl (Nat.le_of_ble_eq_true rfl) (fun _ _ => rfl) rfl ?_
  refine sw_istore dL_law_656 (by decide) rfl ?_
  refine sw_aload_n dL_law_658 rfl ?_
  refine la (M := m_L_law) (j := 1) dL_law_659 dL_law_660 dL_law_662 (by decide) dL_law_663 dL_law_664 rfl rfl hx1 (by omega) ?_
  refine la (M := m_L_law) (j := 2) dL_law_665 dL_law_666 dL_law_668 (by decide) dL_law_669 dL_law_670 rfl rfl hx2 (by omega) ?_
  refine la (M := m_L_law) (j := 3) dL_law_671 dL_law_672 dL_law_674 (by decide) dL_law_675 dL_law_676 rfl rfl hx3 (by omega) ?_
  refine lw_cV (M := m_L_law) (D := d + 20) (v := .int y) dL_law_677 lv_L_153 m10 (by omega) (mo_H hz1) rfl (by decide) rfl rfl rfl (Nat.le_of_ble_eq_true rfl) (fun _ _ => rfl) rfl ?_
  refine sw_istore dL_law_680 (by decide) rfl ?_
  refine sw_aload_n dL_law_682 rfl ?_
  refine lw_cV (M := m_L_law) (D := d + 20) (v := .int (nI kk)) dL_law_683 lv_L_138 (r_thrown th) (by omega) (mo_H hz2) rfl (by decide) rfl rfl rfl (Nat.le_of_ble_eq_true rfl) (fun _ _ => rfl) rfl ?_
  refine sw_iload dL_law_686 rfl ?_
  refine sw_icmp_eq (tgt := 693) dL_law_688 (by decide) (fun _ => ?_) (fun q => absurd rfl q)
  refine sw_iload dL_law_693 rfl ?_
  refine sw_if_ne (tgt := 710) dL_law_695 (by decide) (fun q => sw_goto (tgt := 2148) dL_law_710 (by decide) (sw_fg [false, false, false, false, false, false, true, true, true] rfl (K c2 I2 ⟨_, f82⟩ ⟨_, f83⟩))) (fun q => ?_)
  have k0 : kk = 0 := (i_eq0 (by omega)).mp q
  have hb := hb k0
  subst hb
  refine sw_aload_n dL_law_698 rfl ?_
  refine sw_iconst (v := 0) dL_law_699 (by decide) ?_
  refine sw_lald dL_law_700 (hp_is 82 102 f82 (by decide) (by decide)) (by decide) rfl ?_
  refine sw_iload dL_law_701 rfl ?_
  refine sw_i2l dL_law_703 ?_
  refine sw_lcmp dL_law_704 ?_
  exact sw_if_eq (tgt := 710) dL_law_705 (by decide) (fun _ => sw_goto (tgt := 2148) dL_law_710 (by decide) (sw_fg [false, false, false, false, false, false, true, true, true] rfl (K c2 I2 ⟨_, f82⟩ ⟨_, f83⟩))) (fun q => absurd (lgc _) q)
theorem lc_10 (I : INV c) (g82 : ∃ a, c 82 = [.long a]) (g83 : ∃ a, c 83 = [.double a]) (X : ∀ j, j < 6 → ∃ x, xs[i + j]? = some x) (hi : i < 5000) (K : ∀ c', INV c' → (∃ a, c' 82 = [.long a]) → (∃ a, c' 83 = [.double a]) → SW (some xs) m_L_law (d + 22) rc rs 2148 (LL i) [] (hp c') P) : SW (some xs) m_L_law (d + 22) (rc + 1) (rs + 6) 713 (LL i) [] (hp c) P := by
  obtain ⟨x1, hx1⟩ := X 1 (by decide)
  obtain ⟨kk, y, c1, c2, mh, m10, th, hk5, I2, ⟨b, f83, hb⟩, f82, z1, hz1⟩ := h_meanDistance (d := d) (x := x1) I g82 g83
  obtain ⟨a82, g82⟩ := g82
  rw [g82] at f82
  obtain ⟨z2, hz2⟩ := th.m
  refine sw_aload_n dL_law_713 rfl ?_
  refine la (M := m_L_law) (j := 1) dL_law_714 dL_law_715 dL_law_717 (by decide) dL_law_718 dL_law_719 rfl rfl hx1 (by omega) ?_
  refine sw_aload dL_law_720 rfl ?_
  refine lw_cX (M := m_L_law) (D := d + 20 + 1) dL_law_722 lx_L_154 mh (by omega) rfl rfl (Nat.le_of_ble_eq_true rfl) (fun _ _ => rfl) rfl ?_
  refine sw_istore dL_law_725 (by decide) rfl ?_
  refine sw_aload_n dL_law_727 rfl ?_
  refine la (M := m_L_law) (j := 1) dL_law_728 dL_law_729 dL_law_731 (by decide) dL_law_732 dL_law_733 rfl rfl hx1 (by omega) ?_
  refine lw_cV (M := m_L_law) (D := d + 20) (v := .double y) dL_law_734 lv_L_157 m10 (by omega) (mo_H hz1) rfl (by decide) rfl rfl rfl (Nat.le_of_ble_eq_true rfl) (fun _ _ => rfl) rfl ?_
  refine sw_dstore dL_law_737 (by decide) rfl ?_
  refine sw_aload_n dL_law_739 rfl ?_
  refine lw_cV (M := m_L_law) (D := d + 20) (v := .int (nI kk)) dL_law_740 lv_L_138 (r_thrown th) (by omega) (mo_H hz2) rfl (by decide) rfl rfl rfl (Nat.le_of_ble_eq_true rfl) (fun _ _ => rfl) rfl ?_
  refine sw_iload dL_law_743 rfl ?_
  refine sw_icmp_eq (tgt := 750) dL_law_745 (by decide) (fun _ => ?_) (fun q => absurd rfl q)
  refine sw_iload dL_law_750 rfl ?_
  refine sw_if_ne (tgt := 787) dL_law_752 (by decide) (fun q => sw_goto (tgt := 2148) dL_law_787 (by decide) (sw_fg [false, false, false, false, false, false, true, true, true] rfl (K c2 I2 ⟨_, f82⟩ ⟨_, f83⟩))) (fun q => ?_)
  have k0 : kk = 0 := (i_eq0 (by omega)).mp q
  have hb := hb k0
  subst hb
  refine sw_aload dL_law_755 rfl ?_
  refine sw_iconst (v := 0) dL_law_757 (by decide) ?_
  refine sw_dald dL_law_758 (hp_is 83 103 f83 (by decide) (by decide)) (by decide) rfl ?_
  refine sw_dload dL_law_759 rfl ?_
  refine sw_dcmp dL_law_761 ?_
  refine sw_if_eq (tgt := 787) dL_law_762 (by decide) (fun _ => sw_goto (tgt := 2148) dL_law_787 (by decide) (sw_fg [false, false, false, false, false, false, true, true, true] rfl (K c2 I2 ⟨_, f82⟩ ⟨_, f83⟩))) (fun q1 => ?_)
  refine sw_aload dL_law_765 rfl ?_
  refine sw_iconst (v := 0) dL_law_767 (by decide) ?_
  refine sw_dald dL_law_768 (hp_is 83 103 f83 (by decide) (by decide)) (by decide) rfl ?_
  refine sw_aload dL_law_769 rfl ?_
  refine sw_iconst (v := 0) dL_law_771 (by decide) ?_
  refine sw_dald dL_law_772 (hp_is 83 103 f83 (by decide) (by decide)) (by decide) rfl ?_
  refine sw_dcmp dL_law_773 ?_
  refine sw_if_eq (tgt := 785) dL_law_774 (by decide) (fun q2 => absurd q2 q1) (fun _ => ?_)
  refine sw_dload dL_law_777 rfl ?_
  refine sw_dload dL_law_779 rfl ?_
  refine sw_dcmp dL_law_781 ?_
  exact sw_if_ne (tgt := 787) dL_law_782 (by decide) (fun _ => sw_goto (tgt := 2148) dL_law_787 (by decide) (sw_fg [false, false, false, false, false, false, true, true, true] rfl (K c2 I2 ⟨_, f82⟩ ⟨_, f83⟩))) (fun q2 => absurd q2 q1)
theorem lc_11 (I : INV c) (g82 : ∃ a, c 82 = [.long a]) (g83 : ∃ a, c 83 = [.double a]) (X : ∀ j, j < 6 → ∃ x, xs[i + j]? = some x) (hi : i < 5000) (K : ∀ c', INV c' → (∃ a, c' 82 = [.long a]) → (∃ a, c' 83 = [.double a]) → SW (some xs) m_L_law (d + 22) rc rs 2148 (LL i) [] (hp c') P) : SW (some xs) m_L_law (d + 22) (rc + 1) (rs + 6) 790 (LL i) [] (hp c) P := by
  obtain ⟨x1, hx1⟩ := X 1 (by decide)
  obtain ⟨kk, y, c1, c2, mh, m10, th, hk5, I2, ⟨b, f83, hb⟩, hy, f82, z1, hz1⟩ := h_balance (d := d) (x := x1) I g82 g83
  obtain ⟨a82, g82⟩ := g82
  rw [g82] at f82
  obtain ⟨z2, hz2⟩ := th.m
  refine sw_aload_n dL_law_790 rfl ?_
  refine la (M := m_L_law) (j := 1) dL_law_791 dL_law_792 dL_law_794 (by decide) dL_law_795 dL_law_796 rfl rfl hx1 (by omega) ?_
  refine sw_aload dL_law_797 rfl ?_
  refine lw_cX (M := m_L_law) (D := d + 20 + 1) dL_law_799 lx_L_158 mh (by omega) rfl rfl (Nat.le_of_ble_eq_true rfl) (fun _ _ => rfl) rfl ?_
  refine sw_istore dL_law_802 (by decide) rfl ?_
  refine sw_aload_n dL_law_804 rfl ?_
  refine la (M := m_L_law) (j := 1) dL_law_805 dL_law_806 dL_law_808 (by decide) dL_law_809 dL_law_810 rfl rfl hx1 (by omega) ?_
  refine lw_cV (M := m_L_law) (D := d + 20) (v := .float y) dL_law_811 lv_L_160 m10 (by omega) (mo_H hz1) rfl (by decide) rfl rfl rfl (Nat.le_of_ble_eq_true rfl) (fun _ _ => rfl) rfl ?_
  refine sw_fstore dL_law_814 (by decide) rfl ?_
  refine sw_aload_n dL_law_816 rfl ?_
  refine lw_cV (M := m_L_law) (D := d + 20) (v := .int (nI kk)) dL_law_817 lv_L_138 (r_thrown th) (by omega) (mo_H hz2) rfl (by decide) rfl rfl rfl (Nat.le_of_ble_eq_true rfl) (fun _ _ => rfl) rfl ?_
  refine sw_iload dL_law_820 rfl ?_
  refine sw_icmp_eq (tgt := 827) dL_law_822 (by decide) (fun _ => ?_) (fun q => absurd rfl q)
  refine sw_iload dL_law_827 rfl ?_
  refine sw_if_ne (tgt := 865) dL_law_829 (by decide) (fun q => sw_goto (tgt := 2148) dL_law_865 (by decide) (sw_fg [false, false, false, false, false, false, true, true, true] rfl (K c2 I2 ⟨_, f82⟩ ⟨_, f83⟩))) (fun q => ?_)
  have k0 : kk = 0 := (i_eq0 (by omega)).mp q
  have hb := hb k0
  subst hb
  refine sw_aload dL_law_832 rfl ?_
  refine sw_iconst (v := 0) dL_law_834 (by decide) ?_
  refine sw_dald dL_law_835 (hp_is 83 103 f83 (by decide) (by decide)) (by decide) rfl ?_
  refine sw_fload dL_law_836 rfl ?_
  refine sw_f2d dL_law_838 hy.1 ?_
  refine sw_dcmp dL_law_839 ?_
  exact sw_if_eq (tgt := 865) dL_law_840 (by decide) (fun _ => sw_goto (tgt := 2148) dL_law_865 (by decide) (sw_fg [false, false, false, false, false, false, true, true, true] rfl (K c2 I2 ⟨_, f82⟩ ⟨_, f83⟩))) (fun q => absurd hy.2 q)
theorem lc_12 (I : INV c) (g82 : ∃ a, c 82 = [.long a]) (g83 : ∃ a, c 83 = [.double a]) (X : ∀ j, j < 6 → ∃ x, xs[i + j]? = some x) (hi : i < 5000) (K : ∀ c', INV c' → (∃ a, c' 82 = [.long a]) → (∃ a, c' 83 = [.double a]) → SW (some xs) m_L_law (d + 22) rc rs 2148 (LL i) [] (hp c') P) : SW (some xs) m_L_law (d + 22) (rc + 1) (rs + 6) 868 (LL i) [] (hp c) P := by
  obtain ⟨x1, hx1⟩ := X 1 (by decide)
  obtain ⟨kk, y, c1, c2, mh, m10, th, hk5, I2, ⟨b, f82, hb⟩, f83, z1, hz1⟩ := h_code (d := d) (x := x1) I g82 g83
  obtain ⟨a83, g83⟩ := g83
  rw [g83] at f83
  obtain ⟨z2, hz2⟩ := th.m
  refine sw_aload_n dL_law_868 rfl ?_
  refine la (M := m_L_law) (j := 1) dL_law_869 dL_law_870 dL_law_872 (by decide) dL_law_873 dL_law_874 rfl rfl hx1 (by omega) ?_
  refine sw_aload_n dL_law_875 rfl ?_
  refine lw_cX (M := m_L_law) (D := d + 20 + 1) dL_law_876 lx_L_161 mh (by omega) rfl rfl (Nat.le_of_ble_eq_true rfl) (fun _ _ => rfl) rfl ?_
  refine sw_istore dL_law_879 (by decide) rfl ?_
  refine sw_aload_n dL_law_881 rfl ?_
  refine la (M := m_L_law) (j := 1) dL_law_882 dL_law_883 dL_law_885 (by decide) dL_law_886 dL_law_887 rfl rfl hx1 (by omega) ?_
  refine lw_cV (M := m_L_law) (D := d + 20) (v := .int y) dL_law_888 lv_L_164 m10 (by omega) (mo_H hz1) rfl (by decide) rfl rfl rfl (Nat.le_of_ble_eq_true rfl) (fun _ _ => rfl) rfl ?_
  refine sw_istore dL_law_891 (by decide) rfl ?_
  refine sw_aload_n dL_law_893 rfl ?_
  refine lw_cV (M := m_L_law) (D := d + 20) (v := .int (nI kk)) dL_law_894 lv_L_138 (r_thrown th) (by omega) (mo_H hz2) rfl (by decide) rfl rfl rfl (Nat.le_of_ble_eq_true rfl) (fun _ _ => rfl) rfl ?_
  refine sw_iload dL_law_897 rfl ?_
  refine sw_icmp_eq (tgt := 904) dL_law_899 (by decide) (fun _ => ?_) (fun q => absurd rfl q)
  refine sw_iload dL_law_904 rfl ?_
  refine sw_if_ne (tgt := 921) dL_law_906 (by decide) (fun q => sw_goto (tgt := 2148) dL_law_921 (by decide) (sw_fg [false, false, false, false, false, false, true, true, true] rfl (K c2 I2 ⟨_, f82⟩ ⟨_, f83⟩))) (fun q => ?_)
  have k0 : kk = 0 := (i_eq0 (by omega)).mp q
  have hb := hb k0
  subst hb
  refine sw_aload_n dL_law_909 rfl ?_
  refine sw_iconst (v := 0) dL_law_910 (by decide) ?_
  refine sw_lald dL_law_911 (hp_is 82 102 f82 (by decide) (by decide)) (by decide) rfl ?_
  refine sw_iload dL_law_912 rfl ?_
  refine sw_i2l dL_law_914 ?_
  refine sw_lcmp dL_law_915 ?_
  exact sw_if_eq (tgt := 921) dL_law_916 (by decide) (fun _ => sw_goto (tgt := 2148) dL_law_921 (by decide) (sw_fg [false, false, false, false, false, false, true, true, true] rfl (K c2 I2 ⟨_, f82⟩ ⟨_, f83⟩))) (fun q => absurd (lgc _) q)
theorem lc_13 (I : INV c) (g82 : ∃ a, c 82 = [.long a]) (g83 : ∃ a, c 83 = [.double a]) (X : ∀ j, j < 6 → ∃ x, xs[i + j]? = some x) (hi : i < 5000) (K : ∀ c', INV c' → (∃ a, c' 82 = [.long a]) → (∃ a, c' 83 = [.double a]) → SW (some xs) m_L_law (d + 22) rc rs 2148 (LL i) [] (hp c') P) : SW (some xs) m_L_law (d + 22) (rc + 1) (rs + 6) 924 (LL i) [] (hp c) P := by
  obtain ⟨kk, y, c1, c2, mh, m10, th, hk5, I2, ⟨b, f82, hb⟩, f83, z1, hz1⟩ := h_rank (d := d)  I g82 g83
  obtain ⟨a83, g83⟩ := g83
  rw [g83] at f83
  obtain ⟨z2, hz2⟩ := th.m
  refine sw_aload_n dL_law_924 rfl ?_
  refine sw_aload_n dL_law_925 rfl ?_
  refine lw_cX (M := m_L_law) (D := d + 20 + 1) dL_law_926 lx_L_165 mh (by omega) rfl rfl (Nat.le_of_ble_eq_true rfl) (fun _ _ => rfl) rfl ?_
  refine sw_istore dL_law_929 (by decide) rfl ?_
  refine sw_aload_n dL_law_931 rfl ?_
  refine lw_cV (M := m_L_law) (D := d + 20) (v := .int y) dL_law_932 lv_L_168 m10 (by omega) (mo_H hz1) rfl (by decide) rfl rfl rfl (Nat.le_of_ble_eq_true rfl) (fun _ _ => rfl) rfl ?_
  refine sw_istore dL_law_935 (by decide) rfl ?_
  refine sw_aload_n dL_law_937 rfl ?_
  refine lw_cV (M := m_L_law) (D := d + 20) (v := .int (nI kk)) dL_law_938 lv_L_138 (r_thrown th) (by omega) (mo_H hz2) rfl (by decide) rfl rfl rfl (Nat.le_of_ble_eq_true rfl) (fun _ _ => rfl) rfl ?_
  refine sw_iload dL_law_941 rfl ?_
  refine sw_icmp_eq (tgt := 948) dL_law_943 (by decide) (fun _ => ?_) (fun q => absurd rfl q)
  refine sw_iload dL_law_948 rfl ?_
  refine sw_if_ne (tgt := 965) dL_law_950 (by decide) (fun q => sw_goto (tgt := 2148) dL_law_965 (by decide) (sw_fg [false, false, false, false, false, false, true, true, true] rfl (K c2 I2 ⟨_, f82⟩ ⟨_, f83⟩))) (fun q => ?_)
  have k0 : kk = 0 := (i_eq0 (by omega)).mp q
  have hb := hb k0
  subst hb
  refine sw_aload_n dL_law_953 rfl ?_
  refine sw_iconst (v := 0) dL_law_954 (by decide) ?_
  refine sw_lald dL_law_955 (hp_is 82 102 f82 (by decide) (by decide)) (by decide) rfl ?_
  refine sw_iload dL_law_956 rfl ?_
  refine sw_i2l dL_law_958 ?_
  refine sw_lcmp dL_law_959 ?_
  exact sw_if_eq (tgt := 965) dL_law_960 (by decide) (fun _ => sw_goto (tgt := 2148) dL_law_965 (by decide) (sw_fg [false, false, false, false, false, false, true, true, true] rfl (K c2 I2 ⟨_, f82⟩ ⟨_, f83⟩))) (fun q => absurd (lgc _) q)
theorem lc_14 (I : INV c) (g82 : ∃ a, c 82 = [.long a]) (g83 : ∃ a, c 83 = [.double a]) (X : ∀ j, j < 6 → ∃ x, xs[i + j]? = some x) (hi : i < 5000) (K : ∀ c', INV c' → (∃ a, c' 82 = [.long a]) → (∃ a, c' 83 = [.double a]) → SW (some xs) m_L_law (d + 22) rc rs 2148 (LL i) [] (hp c') P) : SW (some xs) m_L_law (d + 22) (rc + 1) (rs + 6) 968 (LL i) [] (hp c) P := by
  obtain ⟨kk, y, c1, c2, mh, m10, th, hk5, I2, ⟨b, f82, hb⟩, f83, z1, hz1⟩ := h_sameDegrees (d := d)  I g82 g83
  obtain ⟨a83, g83⟩ := g83
  rw [g83] at f83
  obtain ⟨z2, hz2⟩ := th.m
  refine sw_aload_n dL_law_968 rfl ?_
  refine sw_aload_n dL_law_969 rfl ?_
  refine lw_cX (M := m_L_law) (D := d + 20 + 1) dL_law_970 lx_L_169 mh (by omega) rfl rfl (Nat.le_of_ble_eq_true rfl) (fun _ _ => rfl) rfl ?_
  refine sw_istore dL_law_973 (by decide) rfl ?_
  refine sw_aload_n dL_law_975 rfl ?_
  refine lw_cV (M := m_L_law) (D := d + 20) (v := .int y) dL_law_976 lv_L_171 m10 (by omega) (mo_H hz1) rfl (by decide) rfl rfl rfl (Nat.le_of_ble_eq_true rfl) (fun _ _ => rfl) rfl ?_
  refine sw_istore dL_law_979 (by decide) rfl ?_
  refine sw_aload_n dL_law_981 rfl ?_
  refine lw_cV (M := m_L_law) (D := d + 20) (v := .int (nI kk)) dL_law_982 lv_L_138 (r_thrown th) (by omega) (mo_H hz2) rfl (by decide) rfl rfl rfl (Nat.le_of_ble_eq_true rfl) (fun _ _ => rfl) rfl ?_
  refine sw_iload dL_law_985 rfl ?_
  refine sw_icmp_eq (tgt := 992) dL_law_987 (by decide) (fun _ => ?_) (fun q => absurd rfl q)
  refine sw_iload dL_law_992 rfl ?_
  refine sw_if_ne (tgt := 1009) dL_law_994 (by decide) (fun q => sw_goto (tgt := 2148) dL_law_1009 (by decide) (sw_fg [false, false, false, false, false, false, true, true, true] rfl (K c2 I2 ⟨_, f82⟩ ⟨_, f83⟩))) (fun q => ?_)
  have k0 : kk = 0 := (i_eq0 (by omega)).mp q
  have hb := hb k0
  subst hb
  refine sw_aload_n dL_law_997 rfl ?_
  refine sw_iconst (v := 0) dL_law_998 (by decide) ?_
  refine sw_lald dL_law_999 (hp_is 82 102 f82 (by decide) (by decide)) (by decide) rfl ?_
  refine sw_iload dL_law_1000 rfl ?_
  refine sw_i2l dL_law_1002 ?_
  refine sw_lcmp dL_law_1003 ?_
  exact sw_if_eq (tgt := 1009) dL_law_1004 (by decide) (fun _ => sw_goto (tgt := 2148) dL_law_1009 (by decide) (sw_fg [false, false, false, false, false, false, true, true, true] rfl (K c2 I2 ⟨_, f82⟩ ⟨_, f83⟩))) (fun q => absurd (lgc _) q)
theorem lc_15 (I : INV c) (g82 : ∃ a, c 82 = [.long a]) (g83 : ∃ a, c 83 = [.double a]) (X : ∀ j, j < 6 → ∃ x, xs[i + j]? = some x) (hi : i < 5000) (K : ∀ c', INV c' → (∃ a, c' 82 = [.long a]) → (∃ a, c' 83 = [.double a]) → SW (some xs) m_L_law (d + 22) rc rs 2148 (LL i) [] (hp c') P) : SW (some xs) m_L_law (d + 22) (rc + 1) (rs + 6) 1012 (LL i) [] (hp c) P := by
  obtain ⟨x1, hx1⟩ := X 1 (by decide)
  obtain ⟨kk, y, c1, c2, mh, m10, th, hk5, I2, ⟨b, f82, hb⟩, f83, z1, hz1⟩ := h_writeWord (d := d) (x := x1) I g82 g83
  obtain ⟨a83, g83⟩ := g83
  rw [g83] at f83
  obtain ⟨z2, hz2⟩ := th.m
  refine sw_aload_n dL_law_1012 rfl ?_
  refine la (M := m_L_law) (j := 1) dL_law_1013 dL_law_1014 dL_law_1016 (by decide) dL_law_1017 dL_law_1018 rfl rfl hx1 (by omega) ?_
  refine sw_aload_n dL_law_1019 rfl ?_
  refine lw_cX (M := m_L_law) (D := d + 20 + 1) dL_law_1020 lx_L_172 mh (by omega) rfl rfl (Nat.le_of_ble_eq_true rfl) (fun _ _ => rfl) rfl ?_
  refine sw_istore dL_law_1023 (by decide) rfl ?_
  refine sw_aload_n dL_law_1025 rfl ?_
  refine la (M := m_L_law) (j := 1) dL_law_1026 dL_law_1027 dL_law_1029 (by decide) dL_law_1030 dL_law_1031 rfl rfl hx1 (by omega) ?_
  refine lw_cV (M := m_L_law) (D := d + 20) (v := .int y) dL_law_1032 lv_L_174 m10 (by omega) (mo_H hz1) rfl (by decide) rfl rfl rfl (Nat.le_of_ble_eq_true rfl) (fun _ _ => rfl) rfl ?_
  refine sw_istore dL_law_1035 (by decide) rfl ?_
  refine sw_aload_n dL_law_1037 rfl ?_
  refine lw_cV (M := m_L_law) (D := d + 20) (v := .int (nI kk)) dL_law_1038 lv_L_138 (r_thrown th) (by omega) (mo_H hz2) rfl (by decide) rfl rfl rfl (Nat.le_of_ble_eq_true rfl) (fun _ _ => rfl) rfl ?_
  refine sw_iload dL_law_1041 rfl ?_
  refine sw_icmp_eq (tgt := 1048) dL_law_1043 (by decide) (fun _ => ?_) (fun q => absurd rfl q)
  refine sw_iload dL_law_1048 rfl ?_
  refine sw_if_ne (tgt := 1065) dL_law_1050 (by decide) (fun q => sw_goto (tgt := 2148) dL_law_1065 (by decide) (sw_fg [false, false, false, false, false, false, true, true, true] rfl (K c2 I2 ⟨_, f82⟩ ⟨_, f83⟩))) (fun q => ?_)
  have k0 : kk = 0 := (i_eq0 (by omega)).mp q
  have hb := hb k0
  subst hb
  refine sw_aload_n dL_law_1053 rfl ?_
  refine sw_iconst (v := 0) dL_law_1054 (by decide) ?_
  refine sw_lald dL_law_1055 (hp_is 82 102 f82 (by decide) (by decide)) (by decide) rfl ?_
  refine sw_iload dL_law_1056 rfl ?_
  refine sw_i2l dL_law_1058 ?_
  refine sw_lcmp dL_law_1059 ?_
  exact sw_if_eq (tgt := 1065) dL_law_1060 (by decide) (fun _ => sw_goto (tgt := 2148) dL_law_1065 (by decide) (sw_fg [false, false, false, false, false, false, true, true, true] rfl (K c2 I2 ⟨_, f82⟩ ⟨_, f83⟩))) (fun q => absurd (lgc _) q)
theorem lc_16 (I : INV c) (g82 : ∃ a, c 82 = [.long a]) (g83 : ∃ a, c 83 = [.double a]) (X : ∀ j, j < 6 → ∃ x, xs[i + j]? = some x) (hi : i < 5000) (K : ∀ c', INV c' → (∃ a, c' 82 = [.long a]) → (∃ a, c' 83 = [.double a]) → SW (some xs) m_L_law (d + 22) rc rs 2148 (LL i) [] (hp c') P) : SW (some xs) m_L_law (d + 22) (rc + 1) (rs + 6) 1068 (LL i) [] (hp c) P := by
  obtain ⟨a82, g82⟩ := g82
  obtain ⟨a83, g83⟩ := g83
  refine sw_room ?_
  rcases p_writeText (d := d)  I with ⟨c1, v, m9, hv, b1, k⟩ | ⟨e, c2, v, m9, hv, m10, th, hk, I2, b2⟩
  · obtain ⟨y, rfl⟩ := vt_int (Or.inl rfl) hv
    obtain ⟨c2, m10, th, I2, b2⟩ := k c1 (fun _ _ => rfl)
    obtain ⟨z, hz⟩ := I.m
    have hz1 : c1 70 = moL z := (b1 70 (by decide)).trans hz
    refine sw_aload_n dL_law_1068 rfl ?_
    refine lw_cV (M := m_L_law) (D := d + 20) (v := .int y) dL_law_1069 lv_L_175 m9 (by omega) I.o rfl (by decide) rfl rfl rfl (Nat.le_of_ble_eq_true rfl) (fun _ _ => rfl) rfl ?_
    refine sw_aload_n dL_law_1072 rfl ?_
    refine lw_cV (M := m_L_law) (D := d + 20) (v := .int y) dL_law_1073 lv_L_178 m10 (by omega) (mo_H hz1) rfl (by decide) rfl rfl rfl (Nat.le_of_ble_eq_true rfl) (fun _ _ => rfl) rfl ?_
    exact sw_icmp_eq (tgt := 2148) dL_law_1076 (by decide) (fun _ => K c2 I2 ⟨_, (b2 82 (by decide)).trans ((b1 82 (by decide)).trans g82)⟩ ⟨_, (b2 83 (by decide)).trans ((b1 83 (by decide)).trans g83)⟩) (fun q => absurd rfl q)
  · exact absurd rfl hk
theorem lc_17 (I : INV c) (g82 : ∃ a, c 82 = [.long a]) (g83 : ∃ a, c 83 = [.double a]) (X : ∀ j, j < 6 → ∃ x, xs[i + j]? = some x) (hi : i < 5000) (K : ∀ c', INV c' → (∃ a, c' 82 = [.long a]) → (∃ a, c' 83 = [.double a]) → SW (some xs) m_L_law (d + 22) rc rs 2148 (LL i) [] (hp c') P) : SW (some xs) m_L_law (d + 22) (rc + 1) (rs + 6) 1081 (LL i) [] (hp c) P := by
  obtain ⟨x1, hx1⟩ := X 1 (by decide)
  obtain ⟨kk, y, c1, c2, mh, m10, th, hk5, I2, ⟨b, f82, hb⟩, f83, z1, hz1⟩ := h_outputByte (d := d) (x := x1) I g82 g83
  obtain ⟨a83, g83⟩ := g83
  rw [g83] at f83
  obtain ⟨z2, hz2⟩ := th.m
  refine sw_aload_n dL_law_1081 rfl ?_
  refine la (M := m_L_law) (j := 1) dL_law_1082 dL_law_1083 dL_law_1085 (by decide) dL_law_1086 dL_law_1087 rfl rfl hx1 (by omega) ?_
  refine sw_aload_n dL_law_1088 rfl ?_
  refine lw_cX (M := m_L_law) (D := d + 20 + 1) dL_law_1089 lx_L_179 mh (by omega) rfl rfl (Nat.le_of_ble_eq_true rfl) (fun _ _ => rfl) rfl ?_
  refine sw_istore dL_law_1092 (by decide) rfl ?_
  refine sw_aload_n dL_law_1094 rfl ?_
  refine la (M := m_L_law) (j := 1) dL_law_1095 dL_law_1096 dL_law_1098 (by decide) dL_law_1099 dL_law_1100 rfl rfl hx1 (by omega) ?_
  refine lw_cV (M := m_L_law) (D := d + 20) (v := .int y) dL_law_1101 lv_L_181 m10 (by omega) (mo_H hz1) rfl (by decide) rfl rfl rfl (Nat.le_of_ble_eq_true rfl) (fun _ _ => rfl) rfl ?_
  refine sw_istore dL_law_1104 (by decide) rfl ?_
  refine sw_aload_n dL_law_1106 rfl ?_
  refine lw_cV (M := m_L_law) (D := d + 20) (v := .int (nI kk)) dL_law_1107 lv_L_138 (r_thrown th) (by omega) (mo_H hz2) rfl (by decide) rfl rfl rfl (Nat.le_of_ble_eq_true rfl) (fun _ _ => rfl) rfl ?_
  refine sw_iload dL_law_1110 rfl ?_
  refine sw_icmp_eq (tgt := 1117) dL_law_1112 (by decide) (fun _ => ?_) (fun q => absurd rfl q)
  refine sw_iload dL_law_1117 rfl ?_
  refine sw_if_ne (tgt := 1134) dL_law_1119 (by decide) (fun q => sw_goto (tgt := 2148) dL_law_1134 (by decide) (sw_fg [false, false, false, false, false, false, true, true, true] rfl (K c2 I2 ⟨_, f82⟩ ⟨_, f83⟩))) (fun q => ?_)
  have k0 : kk = 0 := (i_eq0 (by omega)).mp q
  have hb := hb k0
  subst hb
  refine sw_aload_n dL_law_1122 rfl ?_
  refine sw_iconst (v := 0) dL_law_1123 (by decide) ?_
  refine sw_lald dL_law_1124 (hp_is 82 102 f82 (by decide) (by decide)) (by decide) rfl ?_
  refine sw_iload dL_law_1125 rfl ?_
  refine sw_i2l dL_law_1127 ?_
  refine sw_lcmp dL_law_1128 ?_
  exact sw_if_eq (tgt := 1134) dL_law_1129 (by decide) (fun _ => sw_goto (tgt := 2148) dL_law_1134 (by decide) (sw_fg [false, false, false, false, false, false, true, true, true] rfl (K c2 I2 ⟨_, f82⟩ ⟨_, f83⟩))) (fun q => absurd (lgc _) q)
theorem lc_18 (I : INV c) (g82 : ∃ a, c 82 = [.long a]) (g83 : ∃ a, c 83 = [.double a]) (X : ∀ j, j < 6 → ∃ x, xs[i + j]? = some x) (hi : i < 5000) (K : ∀ c', INV c' → (∃ a, c' 82 = [.long a]) → (∃ a, c' 83 = [.double a]) → SW (some xs) m_L_law (d + 22) rc rs 2148 (LL i) [] (hp c') P) : SW (some xs) m_L_law (d + 22) (rc + 1) (rs + 6) 1137 (LL i) [] (hp c) P := by
  obtain ⟨x1, hx1⟩ := X 1 (by decide)
  obtain ⟨kk, y, c1, c2, mh, m10, th, hk5, I2, ⟨b, f82, hb⟩, f83, z1, hz1⟩ := h_symmetries (d := d) (x := x1) I g82 g83
  obtain ⟨a83, g83⟩ := g83
  rw [g83] at f83
  obtain ⟨z2, hz2⟩ := th.m
  refine sw_aload_n dL_law_1137 rfl ?_
  refine la (M := m_L_law) (j := 1) dL_law_1138 dL_law_1139 dL_law_1141 (by decide) dL_law_1142 dL_law_1143 rfl rfl hx1 (by omega) ?_
  refine sw_aload_n dL_law_1144 rfl ?_
  refine lw_cX (M := m_L_law) (D := d + 20 + 1) dL_law_1145 lx_L_182 mh (by omega) rfl rfl (Nat.le_of_ble_eq_true rfl) (fun _ _ => rfl) rfl ?_
  refine sw_istore dL_law_1148 (by decide) rfl ?_
  refine sw_aload_n dL_law_1150 rfl ?_
  refine la (M := m_L_law) (j := 1) dL_law_1151 dL_law_1152 dL_law_1154 (by decide) dL_law_1155 dL_law_1156 rfl rfl hx1 (by omega) ?_
  refine lw_cV (M := m_L_law) (D := d + 20) (v := .int y) dL_law_1157 lv_L_184 m10 (by omega) (mo_H hz1) rfl (by decide) rfl rfl rfl (Nat.le_of_ble_eq_true rfl) (fun _ _ => rfl) rfl ?_
  refine sw_istore dL_law_1160 (by decide) rfl ?_
  refine sw_aload_n dL_law_1162 rfl ?_
  refine lw_cV (M := m_L_law) (D := d + 20) (v := .int (nI kk)) dL_law_1163 lv_L_138 (r_thrown th) (by omega) (mo_H hz2) rfl (by decide) rfl rfl rfl (Nat.le_of_ble_eq_true rfl) (fun _ _ => rfl) rfl ?_
  refine sw_iload dL_law_1166 rfl ?_
  refine sw_icmp_eq (tgt := 1173) dL_law_1168 (by decide) (fun _ => ?_) (fun q => absurd rfl q)
  refine sw_iload dL_law_1173 rfl ?_
  refine sw_if_ne (tgt := 1190) dL_law_1175 (by decide) (fun q => sw_goto (tgt := 2148) dL_law_1190 (by decide) (sw_fg [false, false, false, false, false, false, true, true, true] rfl (K c2 I2 ⟨_, f82⟩ ⟨_, f83⟩))) (fun q => ?_)
  have k0 : kk = 0 := (i_eq0 (by omega)).mp q
  have hb := hb k0
  subst hb
  refine sw_aload_n dL_law_1178 rfl ?_
  refine sw_iconst (v := 0) dL_law_1179 (by decide) ?_
  refine sw_lald dL_law_1180 (hp_is 82 102 f82 (by decide) (by decide)) (by decide) rfl ?_
  refine sw_iload dL_law_1181 rfl ?_
  refine sw_i2l dL_law_1183 ?_
  refine sw_lcmp dL_law_1184 ?_
  exact sw_if_eq (tgt := 1190) dL_law_1185 (by decide) (fun _ => sw_goto (tgt := 2148) dL_law_1190 (by decide) (sw_fg [false, false, false, false, false, false, true, true, true] rfl (K c2 I2 ⟨_, f82⟩ ⟨_, f83⟩))) (fun q => absurd (lgc _) q)
theorem lc_19 (I : INV c) (g82 : ∃ a, c 82 = [.long a]) (g83 : ∃ a, c 83 = [.double a]) (X : ∀ j, j < 6 → ∃ x, xs[i + j]? = some x) (hi : i < 5000) (K : ∀ c', INV c' → (∃ a, c' 82 = [.long a]) → (∃ a, c' 83 = [.double a]) → SW (some xs) m_L_law (d + 22) rc rs 2148 (LL i) [] (hp c') P) : SW (some xs) m_L_law (d + 22) (rc + 1) (rs + 6) 1193 (LL i) [] (hp c) P := by
  obtain ⟨x1, hx1⟩ := X 1 (by decide)
  obtain ⟨kk, y, c1, c2, mh, m10, th, hk5, I2, ⟨b, f82, hb⟩, f83, z1, hz1⟩ := h_labellings (d := d) (x := x1) I g82 g83
  obtain ⟨a83, g83⟩ := g83
  rw [g83] at f83
  obtain ⟨z2, hz2⟩ := th.m
  refine sw_aload_n dL_law_1193 rfl ?_
  refine la (M := m_L_law) (j := 1) dL_law_1194 dL_law_1195 dL_law_1197 (by decide) dL_law_1198 dL_law_1199 rfl rfl hx1 (by omega) ?_
  refine sw_aload_n dL_law_1200 rfl ?_
  refine lw_cX (M := m_L_law) (D := d + 20 + 1) dL_law_1201 lx_L_185 mh (by omega) rfl rfl (Nat.le_of_ble_eq_true rfl) (fun _ _ => rfl) rfl ?_
  refine sw_istore dL_law_1204 (by decide) rfl ?_
  refine sw_aload_n dL_law_1206 rfl ?_
  refine la (M := m_L_law) (j := 1) dL_law_1207 dL_law_1208 dL_law_1210 (by decide) dL_law_1211 dL_law_1212 rfl rfl hx1 (by omega) ?_
  refine lw_cV (M := m_L_law) (D := d + 20) (v := .int y) dL_law_1213 lv_L_187 m10 (by omega) (mo_H hz1) rfl (by decide) rfl rfl rfl (Nat.le_of_ble_eq_true rfl) (fun _ _ => rfl) rfl ?_
  refine sw_istore dL_law_1216 (by decide) rfl ?_
  refine sw_aload_n dL_law_1218 rfl ?_
  refine lw_cV (M := m_L_law) (D := d + 20) (v := .int (nI kk)) dL_law_1219 lv_L_138 (r_thrown th) (by omega) (mo_H hz2) rfl (by decide) rfl rfl rfl (Nat.le_of_ble_eq_true rfl) (fun _ _ => rfl) rfl ?_
  refine sw_iload dL_law_1222 rfl ?_
  refine sw_icmp_eq (tgt := 1229) dL_law_1224 (by decide) (fun _ => ?_) (fun q => absurd rfl q)
  refine sw_iload dL_law_1229 rfl ?_
  refine sw_if_ne (tgt := 1246) dL_law_1231 (by decide) (fun q => sw_goto (tgt := 2148) dL_law_1246 (by decide) (sw_fg [false, false, false, false, false, false, true, true, true] rfl (K c2 I2 ⟨_, f82⟩ ⟨_, f83⟩))) (fun q => ?_)
  have k0 : kk = 0 := (i_eq0 (by omega)).mp q
  have hb := hb k0
  subst hb
  refine sw_aload_n dL_law_1234 rfl ?_
  refine sw_iconst (v := 0) dL_law_1235 (by decide) ?_
  refine sw_lald dL_law_1236 (hp_is 82 102 f82 (by decide) (by decide)) (by decide) rfl ?_
  refine sw_iload dL_law_1237 rfl ?_
  refine sw_i2l dL_law_1239 ?_
  refine sw_lcmp dL_law_1240 ?_
  exact sw_if_eq (tgt := 1246) dL_law_1241 (by decide) (fun _ => sw_goto (tgt := 2148) dL_law_1246 (by decide) (sw_fg [false, false, false, false, false, false, true, true, true] rfl (K c2 I2 ⟨_, f82⟩ ⟨_, f83⟩))) (fun q => absurd (lgc _) q)
theorem lc_20 (I : INV c) (g82 : ∃ a, c 82 = [.long a]) (g83 : ∃ a, c 83 = [.double a]) (X : ∀ j, j < 6 → ∃ x, xs[i + j]? = some x) (hi : i < 5000) (K : ∀ c', INV c' → (∃ a, c' 82 = [.long a]) → (∃ a, c' 83 = [.double a]) → SW (some xs) m_L_law (d + 22) rc rs 2148 (LL i) [] (hp c') P) : SW (some xs) m_L_law (d + 22) (rc + 1) (rs + 6) 1249 (LL i) [] (hp c) P := by
  obtain ⟨x1, hx1⟩ := X 1 (by decide)
  obtain ⟨x2, hx2⟩ := X 2 (by decide)
  obtain ⟨kk, y, c1, c2, mh, m10, th, hk5, I2, ⟨b, f82, hb⟩, f83, z1, hz1⟩ := h_withLeaves (d := d) (x := x1) (y := x2) I g82 g83
  obtain ⟨a83, g83⟩ := g83
  rw [g83] at f83
  obtain ⟨z2, hz2⟩ := th.m
  refine sw_aload_n dL_law_1249 rfl ?_
  refine la (M := m_L_law) (j := 1) dL_law_1250 dL_law_1251 dL_law_1253 (by decide) dL_law_1254 dL_law_1255 rfl rfl hx1 (by omega) ?_
  refine la (M := m_L_law) (j := 2) dL_law_1256 dL_law_1257 dL_law_1259 (by decide) dL_law_1260 dL_law_1261 rfl rfl hx2 (by omega) ?_
  refine sw_aload_n dL_law_1262 rfl ?_
  refine lw_cX (M := m_L_law) (D := d + 20 + 1) dL_law_1263 lx_L_188 mh (by omega) rfl rfl (Nat.le_of_ble_eq_true rfl) (fun _ _ => rfl) rfl ?_
  refine sw_istore dL_law_1266 (by decide) rfl ?_
  refine sw_aload_n dL_law_1268 rfl ?_
  refine la (M := m_L_law) (j := 1) dL_law_1269 dL_law_1270 dL_law_1272 (by decide) dL_law_1273 dL_law_1274 rfl rfl hx1 (by omega) ?_
  refine la (M := m_L_law) (j := 2) dL_law_1275 dL_law_1276 dL_law_1278 (by decide) dL_law_1279 dL_law_1280 rfl rfl hx2 (by omega) ?_
  refine lw_cV (M := m_L_law) (D := d + 20) (v := .int y) dL_law_1281 lv_L_190 m10 (by omega) (mo_H hz1) rfl (by decide) rfl rfl rfl (Nat.le_of_ble_eq_true rfl) (fun _ _ => rfl) rfl ?_
  refine sw_istore dL_law_1284 (by decide) rfl ?_
  refine sw_aload_n dL_law_1286 rfl ?_
  refine lw_cV (M := m_L_law) (D := d + 20) (v := .int (nI kk)) dL_law_1287 lv_L_138 (r_thrown th) (by omega) (mo_H hz2) rfl (by decide) rfl rfl rfl (Nat.le_of_ble_eq_true rfl) (fun _ _ => rfl) rfl ?_
  refine sw_iload dL_law_1290 rfl ?_
  refine sw_icmp_eq (tgt := 1297) dL_law_1292 (by decide) (fun _ => ?_) (fun q => absurd rfl q)
  refine sw_iload dL_law_1297 rfl ?_
  refine sw_if_ne (tgt := 1314) dL_law_1299 (by decide) (fun q => sw_goto (tgt := 2148) dL_law_1314 (by decide) (sw_fg [false, false, false, false, false, false, true, true, true] rfl (K c2 I2 ⟨_, f82⟩ ⟨_, f83⟩))) (fun q => ?_)
  have k0 : kk = 0 := (i_eq0 (by omega)).mp q
  have hb := hb k0
  subst hb
  refine sw_aload_n dL_law_1302 rfl ?_
  refine sw_iconst (v := 0) dL_law_1303 (by decide) ?_
  refine sw_lald dL_law_1304 (hp_is 82 102 f82 (by decide) (by decide)) (by decide) rfl ?_
  refine sw_iload dL_law_1305 rfl ?_
  refine sw_i2l dL_law_1307 ?_
  refine sw_lcmp dL_law_1308 ?_
  exact sw_if_eq (tgt := 1314) dL_law_1309 (by decide) (fun _ => sw_goto (tgt := 2148) dL_law_1314 (by decide) (sw_fg [false, false, false, false, false, false, true, true, true] rfl (K c2 I2 ⟨_, f82⟩ ⟨_, f83⟩))) (fun q => absurd (lgc _) q)
theorem lc_21 (I : INV c) (g82 : ∃ a, c 82 = [.long a]) (g83 : ∃ a, c 83 = [.double a]) (X : ∀ j, j < 6 → ∃ x, xs[i + j]? = some x) (hi : i < 5000) (K : ∀ c', INV c' → (∃ a, c' 82 = [.long a]) → (∃ a, c' 83 = [.double a]) → SW (some xs) m_L_law (d + 22) rc rs 2148 (LL i) [] (hp c') P) : SW (some xs) m_L_law (d + 22) (rc + 1) (rs + 6) 1317 (LL i) [] (hp c) P := by
  obtain ⟨x1, hx1⟩ := X 1 (by decide)
  obtain ⟨x2, hx2⟩ := X 2 (by decide)
  by_cases q : x2 = 0
  · obtain ⟨kk, y, c1, c2, mh, m10, th, hk5, I2, ⟨b, f82, hb⟩, f83, z1, hz1⟩ := h_classes (d := d) (x := x1) (y := 0) I g82 g83
    obtain ⟨a83, g83⟩ := g83
    rw [g83] at f83
    obtain ⟨z2, hz2⟩ := th.m
    refine sw_aload_n dL_law_1317 rfl ?_
    refine la (M := m_L_law) (j := 1) dL_law_1318 dL_law_1319 dL_law_1321 (by decide) dL_law_1322 dL_law_1323 rfl rfl hx1 (by omega) ?_
    refine la (M := m_L_law) (j := 2) dL_law_1324 dL_law_1325 dL_law_1327 (by decide) dL_law_1328 dL_law_1329 rfl rfl hx2 (by omega) ?_
    refine sw_if_eq (tgt := 1337) dL_law_1330 (by decide) (fun _ => ?_) (fun q2 => absurd q q2)
    refine sw_iconst (v := 0) dL_law_1337 (by decide) ?_
    refine sw_aload_n dL_law_1338 rfl ?_
    refine lw_cX (M := m_L_law) (D := d + 20 + 1) dL_law_1339 lx_L_191 mh (by omega) rfl rfl (Nat.le_of_ble_eq_true rfl) (fun _ _ => rfl) rfl ?_
    refine sw_istore dL_law_1342 (by decide) rfl ?_
    refine sw_aload_n dL_law_1344 rfl ?_
    refine la (M := m_L_law) (j := 1) dL_law_1345 dL_law_1346 dL_law_1348 (by decide) dL_law_1349 dL_law_1350 rfl rfl hx1 (by omega) ?_
    refine la (M := m_L_law) (j := 2) dL_law_1351 dL_law_1352 dL_law_1354 (by decide) dL_law_1355 dL_law_1356 rfl rfl hx2 (by omega) ?_
    refine sw_if_eq (tgt := 1364) dL_law_1357 (by decide) (fun _ => ?_) (fun q2 => absurd q q2)
    refine sw_iconst (v := 0) dL_law_1364 (by decide) ?_
    refine lw_cV (M := m_L_law) (D := d + 20) (v := .int y) dL_law_1365 lv_L_194 m10 (by omega) (mo_H hz1) rfl (by decide) rfl rfl rfl (Nat.le_of_ble_eq_true rfl) (fun _ _ => rfl) rfl ?_
    refine sw_istore dL_law_1368 (by decide) rfl ?_
    refine sw_aload_n dL_law_1370 rfl ?_
    refine lw_cV (M := m_L_law) (D := d + 20) (v := .int (nI kk)) dL_law_1371 lv_L_138 (r_thrown th) (by omega) (mo_H hz2) rfl (by decide) rfl rfl rfl (Nat.le_of_ble_eq_true rfl) (fun _ _ => rfl) rfl ?_
    refine sw_iload dL_law_1374 rfl ?_
    refine sw_icmp_eq (tgt := 1381) dL_law_1376 (by decide) (fun _ => ?_) (fun q => absurd rfl q)
    refine sw_iload dL_law_1381 rfl ?_
    refine sw_if_ne (tgt := 1398) dL_law_1383 (by decide) (fun q => sw_goto (tgt := 2148) dL_law_1398 (by decide) (sw_fg [false, false, false, false, false, false, true, true, true] rfl (K c2 I2 ⟨_, f82⟩ ⟨_, f83⟩))) (fun q => ?_)
    have k0 : kk = 0 := (i_eq0 (by omega)).mp q
    have hb := hb k0
    subst hb
    refine sw_aload_n dL_law_1386 rfl ?_
    refine sw_iconst (v := 0) dL_law_1387 (by decide) ?_
    refine sw_lald dL_law_1388 (hp_is 82 102 f82 (by decide) (by decide)) (by decide) rfl ?_
    refine sw_iload dL_law_1389 rfl ?_
    refine sw_i2l dL_law_1391 ?_
    refine sw_lcmp dL_law_1392 ?_
    exact sw_if_eq (tgt := 1398) dL_law_1393 (by decide) (fun _ => sw_goto (tgt := 2148) dL_law_1398 (by decide) (sw_fg [false, false, false, false, false, false, true, true, true] rfl (K c2 I2 ⟨_, f82⟩ ⟨_, f83⟩))) (fun q => absurd (lgc _) q)
  · obtain ⟨kk, y, c1, c2, mh, m10, th, hk5, I2, ⟨b, f82, hb⟩, f83, z1, hz1⟩ := h_classes (d := d) (x := x1) (y := 1) I g82 g83
    obtain ⟨a83, g83⟩ := g83
    rw [g83] at f83
    obtain ⟨z2, hz2⟩ := th.m
    refine sw_aload_n dL_law_1317 rfl ?_
    refine la (M := m_L_law) (j := 1) dL_law_1318 dL_law_1319 dL_law_1321 (by decide) dL_law_1322 dL_law_1323 rfl rfl hx1 (by omega) ?_
    refine la (M := m_L_law) (j := 2) dL_law_1324 dL_law_1325 dL_law_1327 (by decide) dL_law_1328 dL_law_1329 rfl rfl hx2 (by omega) ?_
    refine sw_if_eq (tgt := 1337) dL_law_1330 (by decide) (fun q2 => absurd q2 q) (fun _ => ?_)
    refine sw_iconst (v := 1) dL_law_1333 (by decide) ?_
    refine sw_goto (tgt := 1338) dL_law_1334 (by decide) ?_
    refine sw_aload_n dL_law_1338 rfl ?_
    refine lw_cX (M := m_L_law) (D := d + 20 + 1) dL_law_1339 lx_L_191 mh (by omega) rfl rfl (Nat.le_of_ble_eq_true rfl) (fun _ _ => rfl) rfl ?_
    refine sw_istore dL_law_1342 (by decide) rfl ?_
    refine sw_aload_n dL_law_1344 rfl ?_
    refine la (M := m_L_law) (j := 1) dL_law_1345 dL_law_1346 dL_law_1348 (by decide) dL_law_1349 dL_law_1350 rfl rfl hx1 (by omega) ?_
    refine la (M := m_L_law) (j := 2) dL_law_1351 dL_law_1352 dL_law_1354 (by decide) dL_law_1355 dL_law_1356 rfl rfl hx2 (by omega) ?_
    refine sw_if_eq (tgt := 1364) dL_law_1357 (by decide) (fun q2 => absurd q2 q) (fun _ => ?_)
    refine sw_iconst (v := 1) dL_law_1360 (by decide) ?_
    refine sw_goto (tgt := 1365) dL_law_1361 (by decide) ?_
    refine lw_cV (M := m_L_law) (D := d + 20) (v := .int y) dL_law_1365 lv_L_194 m10 (by omega) (mo_H hz1) rfl (by decide) rfl rfl rfl (Nat.le_of_ble_eq_true rfl) (fun _ _ => rfl) rfl ?_
    refine sw_istore dL_law_1368 (by decide) rfl ?_
    refine sw_aload_n dL_law_1370 rfl ?_
    refine lw_cV (M := m_L_law) (D := d + 20) (v := .int (nI kk)) dL_law_1371 lv_L_138 (r_thrown th) (by omega) (mo_H hz2) rfl (by decide) rfl rfl rfl (Nat.le_of_ble_eq_true rfl) (fun _ _ => rfl) rfl ?_
    refine sw_iload dL_law_1374 rfl ?_
    refine sw_icmp_eq (tgt := 1381) dL_law_1376 (by decide) (fun _ => ?_) (fun q => absurd rfl q)
    refine sw_iload dL_law_1381 rfl ?_
    refine sw_if_ne (tgt := 1398) dL_law_1383 (by decide) (fun q => sw_goto (tgt := 2148) dL_law_1398 (by decide) (sw_fg [false, false, false, false, false, false, true, true, true] rfl (K c2 I2 ⟨_, f82⟩ ⟨_, f83⟩))) (fun q => ?_)
    have k0 : kk = 0 := (i_eq0 (by omega)).mp q
    have hb := hb k0
    subst hb
    refine sw_aload_n dL_law_1386 rfl ?_
    refine sw_iconst (v := 0) dL_law_1387 (by decide) ?_
    refine sw_lald dL_law_1388 (hp_is 82 102 f82 (by decide) (by decide)) (by decide) rfl ?_
    refine sw_iload dL_law_1389 rfl ?_
    refine sw_i2l dL_law_1391 ?_
    refine sw_lcmp dL_law_1392 ?_
    exact sw_if_eq (tgt := 1398) dL_law_1393 (by decide) (fun _ => sw_goto (tgt := 2148) dL_law_1398 (by decide) (sw_fg [false, false, false, false, false, false, true, true, true] rfl (K c2 I2 ⟨_, f82⟩ ⟨_, f83⟩))) (fun q => absurd (lgc _) q)
theorem lc_22 (I : INV c) (g82 : ∃ a, c 82 = [.long a]) (g83 : ∃ a, c 83 = [.double a]) (X : ∀ j, j < 6 → ∃ x, xs[i + j]? = some x) (hi : i < 5000) (K : ∀ c', INV c' → (∃ a, c' 82 = [.long a]) → (∃ a, c' 83 = [.double a]) → SW (some xs) m_L_law (d + 22) rc rs 2148 (LL i) [] (hp c') P) : SW (some xs) m_L_law (d + 22) (rc + 1) (rs + 6) 1401 (LL i) [] (hp c) P := by
  obtain ⟨x1, hx1⟩ := X 1 (by decide)
  obtain ⟨x2, hx2⟩ := X 2 (by decide)
  obtain ⟨kk, y, c1, c2, mh, m10, th, hk5, I2, ⟨b, f82, hb⟩, f83, z1, hz1⟩ := h_survey (d := d) (x := x1) (y := x2) I g82 g83
  obtain ⟨a83, g83⟩ := g83
  rw [g83] at f83
  obtain ⟨z2, hz2⟩ := th.m
  refine sw_aload_n dL_law_1401 rfl ?_
  refine la (M := m_L_law) (j := 1) dL_law_1402 dL_law_1403 dL_law_1405 (by decide) dL_law_1406 dL_law_1407 rfl rfl hx1 (by omega) ?_
  refine la (M := m_L_law) (j := 2) dL_law_1408 dL_law_1409 dL_law_1411 (by decide) dL_law_1412 dL_law_1413 rfl rfl hx2 (by omega) ?_
  refine sw_aload_n dL_law_1414 rfl ?_
  refine lw_cX (M := m_L_law) (D := d + 20 + 1) dL_law_1415 lx_L_195 mh (by omega) rfl rfl (Nat.le_of_ble_eq_true rfl) (fun _ _ => rfl) rfl ?_
  refine sw_istore dL_law_1418 (by decide) rfl ?_
  refine sw_aload_n dL_law_1420 rfl ?_
  refine la (M := m_L_law) (j := 1) dL_law_1421 dL_law_1422 dL_law_1424 (by decide) dL_law_1425 dL_law_1426 rfl rfl hx1 (by omega) ?_
  refine la (M := m_L_law) (j := 2) dL_law_1427 dL_law_1428 dL_law_1430 (by decide) dL_law_1431 dL_law_1432 rfl rfl hx2 (by omega) ?_
  refine lw_cV (M := m_L_law) (D := d + 20) (v := .int y) dL_law_1433 lv_L_197 m10 (by omega) (mo_H hz1) rfl (by decide) rfl rfl rfl (Nat.le_of_ble_eq_true rfl) (fun _ _ => rfl) rfl ?_
  refine sw_istore dL_law_1436 (by decide) rfl ?_
  refine sw_aload_n dL_law_1438 rfl ?_
  refine lw_cV (M := m_L_law) (D := d + 20) (v := .int (nI kk)) dL_law_1439 lv_L_138 (r_thrown th) (by omega) (mo_H hz2) rfl (by decide) rfl rfl rfl (Nat.le_of_ble_eq_true rfl) (fun _ _ => rfl) rfl ?_
  refine sw_iload dL_law_1442 rfl ?_
  refine sw_icmp_eq (tgt := 1449) dL_law_1444 (by decide) (fun _ => ?_) (fun q => absurd rfl q)
  refine sw_iload dL_law_1449 rfl ?_
  refine sw_if_ne (tgt := 1466) dL_law_1451 (by decide) (fun q => sw_goto (tgt := 2148) dL_law_1466 (by decide) (sw_fg [false, false, false, false, false, false, true, true, true] rfl (K c2 I2 ⟨_, f82⟩ ⟨_, f83⟩))) (fun q => ?_)
  have k0 : kk = 0 := (i_eq0 (by omega)).mp q
  have hb := hb k0
  subst hb
  refine sw_aload_n dL_law_1454 rfl ?_
  refine sw_iconst (v := 0) dL_law_1455 (by decide) ?_
  refine sw_lald dL_law_1456 (hp_is 82 102 f82 (by decide) (by decide)) (by decide) rfl ?_
  refine sw_iload dL_law_1457 rfl ?_
  refine sw_i2l dL_law_1459 ?_
  refine sw_lcmp dL_law_1460 ?_
  exact sw_if_eq (tgt := 1466) dL_law_1461 (by decide) (fun _ => sw_goto (tgt := 2148) dL_law_1466 (by decide) (sw_fg [false, false, false, false, false, false, true, true, true] rfl (K c2 I2 ⟨_, f82⟩ ⟨_, f83⟩))) (fun q => absurd (lgc _) q)
theorem lc_23 (I : INV c) (g82 : ∃ a, c 82 = [.long a]) (g83 : ∃ a, c 83 = [.double a]) (X : ∀ j, j < 6 → ∃ x, xs[i + j]? = some x) (hi : i < 5000) (K : ∀ c', INV c' → (∃ a, c' 82 = [.long a]) → (∃ a, c' 83 = [.double a]) → SW (some xs) m_L_law (d + 22) rc rs 2148 (LL i) [] (hp c') P) : SW (some xs) m_L_law (d + 22) (rc + 1) (rs + 6) 1469 (LL i) [] (hp c) P := by
  obtain ⟨x1, hx1⟩ := X 1 (by decide)
  obtain ⟨x2, hx2⟩ := X 2 (by decide)
  obtain ⟨kk, y, c1, c2, mh, m10, th, hk5, I2, ⟨b, f82, hb⟩, f83, z1, hz1⟩ := h_link (d := d) (x := x1) (y := x2) I g82 g83
  obtain ⟨a83, g83⟩ := g83
  rw [g83] at f83
  obtain ⟨z2, hz2⟩ := th.m
  refine sw_aload_n dL_law_1469 rfl ?_
  refine la (M := m_L_law) (j := 1) dL_law_1470 dL_law_1471 dL_law_1473 (by decide) dL_law_1474 dL_law_1475 rfl rfl hx1 (by omega) ?_
  refine la (M := m_L_law) (j := 2) dL_law_1476 dL_law_1477 dL_law_1479 (by decide) dL_law_1480 dL_law_1481 rfl rfl hx2 (by omega) ?_
  refine sw_aload_n dL_law_1482 rfl ?_
  refine lw_cX (M := m_L_law) (D := d + 20 + 1) dL_law_1483 lx_L_198 mh (by omega) rfl rfl (Nat.le_of_ble_eq_true rfl) (fun _ _ => rfl) rfl ?_
  refine sw_istore dL_law_1486 (by decide) rfl ?_
  refine sw_aload_n dL_law_1488 rfl ?_
  refine la (M := m_L_law) (j := 1) dL_law_1489 dL_law_1490 dL_law_1492 (by decide) dL_law_1493 dL_law_1494 rfl rfl hx1 (by omega) ?_
  refine la (M := m_L_law) (j := 2) dL_law_1495 dL_law_1496 dL_law_1498 (by decide) dL_law_1499 dL_law_1500 rfl rfl hx2 (by omega) ?_
  refine lw_cV (M := m_L_law) (D := d + 20) (v := .int y) dL_law_1501 lv_L_200 m10 (by omega) (mo_H hz1) rfl (by decide) rfl rfl rfl (Nat.le_of_ble_eq_true rfl) (fun _ _ => rfl) rfl ?_
  refine sw_istore dL_law_1504 (by decide) rfl ?_
  refine sw_aload_n dL_law_1506 rfl ?_
  refine lw_cV (M := m_L_law) (D := d + 20) (v := .int (nI kk)) dL_law_1507 lv_L_138 (r_thrown th) (by omega) (mo_H hz2) rfl (by decide) rfl rfl rfl (Nat.le_of_ble_eq_true rfl) (fun _ _ => rfl) rfl ?_
  refine sw_iload dL_law_1510 rfl ?_
  refine sw_icmp_eq (tgt := 1517) dL_law_1512 (by decide) (fun _ => ?_) (fun q => absurd rfl q)
  refine sw_iload dL_law_1517 rfl ?_
  refine sw_if_ne (tgt := 1534) dL_law_1519 (by decide) (fun q => sw_goto (tgt := 2148) dL_law_1534 (by decide) (sw_fg [false, false, false, false, false, false, true, true, true] rfl (K c2 I2 ⟨_, f82⟩ ⟨_, f83⟩))) (fun q => ?_)
  have k0 : kk = 0 := (i_eq0 (by omega)).mp q
  have hb := hb k0
  subst hb
  refine sw_aload_n dL_law_1522 rfl ?_
  refine sw_iconst (v := 0) dL_law_1523 (by decide) ?_
  refine sw_lald dL_law_1524 (hp_is 82 102 f82 (by decide) (by decide)) (by decide) rfl ?_
  refine sw_iload dL_law_1525 rfl ?_
  refine sw_i2l dL_law_1527 ?_
  refine sw_lcmp dL_law_1528 ?_
  exact sw_if_eq (tgt := 1534) dL_law_1529 (by decide) (fun _ => sw_goto (tgt := 2148) dL_law_1534 (by decide) (sw_fg [false, false, false, false, false, false, true, true, true] rfl (K c2 I2 ⟨_, f82⟩ ⟨_, f83⟩))) (fun q => absurd (lgc _) q)
theorem lc_24 (I : INV c) (g82 : ∃ a, c 82 = [.long a]) (g83 : ∃ a, c 83 = [.double a]) (X : ∀ j, j < 6 → ∃ x, xs[i + j]? = some x) (hi : i < 5000) (K : ∀ c', INV c' → (∃ a, c' 82 = [.long a]) → (∃ a, c' 83 = [.double a]) → SW (some xs) m_L_law (d + 22) rc rs 2148 (LL i) [] (hp c') P) : SW (some xs) m_L_law (d + 22) (rc + 1) (rs + 6) 1537 (LL i) [] (hp c) P := by
  obtain ⟨x1, hx1⟩ := X 1 (by decide)
  obtain ⟨x2, hx2⟩ := X 2 (by decide)
  obtain ⟨kk, y, c1, c2, mh, m10, th, hk5, I2, ⟨b, f82, hb⟩, f83, z1, hz1⟩ := h_cut (d := d) (x := x1) (y := x2) I g82 g83
  obtain ⟨a83, g83⟩ := g83
  rw [g83] at f83
  obtain ⟨z2, hz2⟩ := th.m
  refine sw_aload_n dL_law_1537 rfl ?_
  refine la (M := m_L_law) (j := 1) dL_law_1538 dL_law_1539 dL_law_1541 (by decide) dL_law_1542 dL_law_1543 rfl rfl hx1 (by omega) ?_
  refine la (M := m_L_law) (j := 2) dL_law_1544 dL_law_1545 dL_law_1547 (by decide) dL_law_1548 dL_law_1549 rfl rfl hx2 (by omega) ?_
  refine sw_aload_n dL_law_1550 rfl ?_
  refine lw_cX (M := m_L_law) (D := d + 20 + 1) dL_law_1551 lx_L_201 mh (by omega) rfl rfl (Nat.le_of_ble_eq_true rfl) (fun _ _ => rfl) rfl ?_
  refine sw_istore dL_law_1554 (by decide) rfl ?_
  refine sw_aload_n dL_law_1556 rfl ?_
  refine la (M := m_L_law) (j := 1) dL_law_1557 dL_law_1558 dL_law_1560 (by decide) dL_law_1561 dL_law_1562 rfl rfl hx1 (by omega) ?_
  refine la (M := m_L_law) (j := 2) dL_law_1563 dL_law_1564 dL_law_1566 (by decide) dL_law_1567 dL_law_1568 rfl rfl hx2 (by omega) ?_
  refine lw_cV (M := m_L_law) (D := d + 20) (v := .int y) dL_law_1569 lv_L_203 m10 (by omega) (mo_H hz1) rfl (by decide) rfl rfl rfl (Nat.le_of_ble_eq_true rfl) (fun _ _ => rfl) rfl ?_
  refine sw_istore dL_law_1572 (by decide) rfl ?_
  refine sw_aload_n dL_law_1574 rfl ?_
  refine lw_cV (M := m_L_law) (D := d + 20) (v := .int (nI kk)) dL_law_1575 lv_L_138 (r_thrown th) (by omega) (mo_H hz2) rfl (by decide) rfl rfl rfl (Nat.le_of_ble_eq_true rfl) (fun _ _ => rfl) rfl ?_
  refine sw_iload dL_law_1578 rfl ?_
  refine sw_icmp_eq (tgt := 1585) dL_law_1580 (by decide) (fun _ => ?_) (fun q => absurd rfl q)
  refine sw_iload dL_law_1585 rfl ?_
  refine sw_if_ne (tgt := 1609) dL_law_1587 (by decide) (fun q => sw_goto (tgt := 2148) dL_law_1609 (by decide) (sw_fg [false, false, false, false, false, false, true, true, true] rfl (K c2 I2 ⟨_, f82⟩ ⟨_, f83⟩))) (fun q => ?_)
  have k0 : kk = 0 := (i_eq0 (by omega)).mp q
  have hb := hb k0
  subst hb
  refine sw_aload_n dL_law_1590 rfl ?_
  refine sw_iconst (v := 0) dL_law_1591 (by decide) ?_
  refine sw_lald dL_law_1592 (hp_is 82 102 f82 (by decide) (by decide)) (by decide) rfl ?_
  refine sw_iload dL_law_1593 rfl ?_
  refine sw_if_eq (tgt := 1602) dL_law_1595 (by decide) (fun q1 => ?_) (fun q1 => ?_)
  · refine sw_lconst (v := 0) dL_law_1602 (by decide) ?_
    refine sw_lcmp dL_law_1603 ?_
    exact sw_if_eq (tgt := 1609) dL_law_1604 (by decide) (fun _ => sw_goto (tgt := 2148) dL_law_1609 (by decide) (sw_fg [false, false, false, false, false, false, true, true, true] rfl (K c2 I2 ⟨_, f82⟩ ⟨_, f83⟩))) (fun q => absurd (show lg_cmp (if y = 0 then 0 else 1) 0 = 0 from by rw [lj_b q1]; exact lgc _) q)
  · refine sw_lconst (v := 1) dL_law_1598 (by decide) ?_
    refine sw_goto (tgt := 1603) dL_law_1599 (by decide) ?_
    refine sw_lcmp dL_law_1603 ?_
    exact sw_if_eq (tgt := 1609) dL_law_1604 (by decide) (fun _ => sw_goto (tgt := 2148) dL_law_1609 (by decide) (sw_fg [false, false, false, false, false, false, true, true, true] rfl (K c2 I2 ⟨_, f82⟩ ⟨_, f83⟩))) (fun q => absurd (show lg_cmp (if y = 0 then 0 else 1) 1 = 0 from by rw [lj_c q1]; exact lgc _) q)
theorem lc_25 (I : INV c) (g82 : ∃ a, c 82 = [.long a]) (g83 : ∃ a, c 83 = [.double a]) (X : ∀ j, j < 6 → ∃ x, xs[i + j]? = some x) (hi : i < 5000) (K : ∀ c', INV c' → (∃ a, c' 82 = [.long a]) → (∃ a, c' 83 = [.double a]) → SW (some xs) m_L_law (d + 22) rc rs 2148 (LL i) [] (hp c') P) : SW (some xs) m_L_law (d + 22) (rc + 1) (rs + 6) 1612 (LL i) [] (hp c) P := by
  obtain ⟨x1, hx1⟩ := X 1 (by decide)
  obtain ⟨x2, hx2⟩ := X 2 (by decide)
  obtain ⟨x3, hx3⟩ := X 3 (by decide)
  obtain ⟨kk, y, c1, c2, mh, m10, th, hk5, I2, ⟨b, f82, hb⟩, f83, z1, hz1⟩ := h_regraft (d := d) (x := x1) (y := x2) (u := x3) I g82 g83
  obtain ⟨a83, g83⟩ := g83
  rw [g83] at f83
  obtain ⟨z2, hz2⟩ := th.m
  refine sw_aload_n dL_law_1612 rfl ?_
  refine la (M := m_L_law) (j := 1) dL_law_1613 dL_law_1614 dL_law_1616 (by decide) dL_law_1617 dL_law_1618 rfl rfl hx1 (by omega) ?_
  refine la (M := m_L_law) (j := 2) dL_law_1619 dL_law_1620 dL_law_1622 (by decide) dL_law_1623 dL_law_1624 rfl rfl hx2 (by omega) ?_
  refine la (M := m_L_law) (j := 3) dL_law_1625 dL_law_1626 dL_law_1628 (by decide) dL_law_1629 dL_law_1630 rfl rfl hx3 (by omega) ?_
  refine sw_aload_n dL_law_1631 rfl ?_
  refine lw_cX (M := m_L_law) (D := d + 20 + 1) dL_law_1632 lx_L_204 mh (by omega) rfl rfl (Nat.le_of_ble_eq_true rfl) (fun _ _ => rfl) rfl ?_
  refine sw_istore dL_law_1635 (by decide) rfl ?_
  refine sw_aload_n dL_law_1637 rfl ?_
  refine la (M := m_L_law) (j := 1) dL_law_1638 dL_law_1639 dL_law_1641 (by decide) dL_law_1642 dL_law_1643 rfl rfl hx1 (by omega) ?_
  refine la (M := m_L_law) (j := 2) dL_law_1644 dL_law_1645 dL_law_1647 (by decide) dL_law_1648 dL_law_1649 rfl rfl hx2 (by omega) ?_
  refine la (M := m_L_law) (j := 3) dL_law_1650 dL_law_1651 dL_law_1653 (by decide) dL_law_1654 dL_law_1655 rfl rfl hx3 (by omega) ?_
  refine lw_cV (M := m_L_law) (D := d + 20) (v := .int y) dL_law_1656 lv_L_206 m10 (by omega) (mo_H hz1) rfl (by decide) rfl rfl rfl (Nat.le_of_ble_eq_true rfl) (fun _ _ => rfl) rfl ?_
  refine sw_istore dL_law_1659 (by decide) rfl ?_
  refine sw_aload_n dL_law_1661 rfl ?_
  refine lw_cV (M := m_L_law) (D := d + 20) (v := .int (nI kk)) dL_law_1662 lv_L_138 (r_thrown th) (by omega) (mo_H hz2) rfl (by decide) rfl rfl rfl (Nat.le_of_ble_eq_true rfl) (fun _ _ => rfl) rfl ?_
  refine sw_iload dL_law_1665 rfl ?_
  refine sw_icmp_eq (tgt := 1672) dL_law_1667 (by decide) (fun _ => ?_) (fun q => absurd rfl q)
  refine sw_iload dL_law_1672 rfl ?_
  refine sw_if_ne (tgt := 1689) dL_law_1674 (by decide) (fun q => sw_goto (tgt := 2148) dL_law_1689 (by decide) (sw_fg [false, false, false, false, false, false, true, true, true] rfl (K c2 I2 ⟨_, f82⟩ ⟨_, f83⟩))) (fun q => ?_)
  have k0 : kk = 0 := (i_eq0 (by omega)).mp q
  have hb := hb k0
  subst hb
  refine sw_aload_n dL_law_1677 rfl ?_
  refine sw_iconst (v := 0) dL_law_1678 (by decide) ?_
  refine sw_lald dL_law_1679 (hp_is 82 102 f82 (by decide) (by decide)) (by decide) rfl ?_
  refine sw_iload dL_law_1680 rfl ?_
  refine sw_i2l dL_law_1682 ?_
  refine sw_lcmp dL_law_1683 ?_
  exact sw_if_eq (tgt := 1689) dL_law_1684 (by decide) (fun _ => sw_goto (tgt := 2148) dL_law_1689 (by decide) (sw_fg [false, false, false, false, false, false, true, true, true] rfl (K c2 I2 ⟨_, f82⟩ ⟨_, f83⟩))) (fun q => absurd (lgc _) q)
theorem lc_26 (I : INV c) (g82 : ∃ a, c 82 = [.long a]) (g83 : ∃ a, c 83 = [.double a]) (X : ∀ j, j < 6 → ∃ x, xs[i + j]? = some x) (hi : i < 5000) (K : ∀ c', INV c' → (∃ a, c' 82 = [.long a]) → (∃ a, c' 83 = [.double a]) → SW (some xs) m_L_law (d + 22) rc rs 2148 (LL i) [] (hp c') P) : SW (some xs) m_L_law (d + 22) (rc + 1) (rs + 6) 1692 (LL i) [] (hp c) P := by
  obtain ⟨x1, hx1⟩ := X 1 (by decide)
  obtain ⟨kk, y, c1, c2, mh, m10, th, hk5, I2, ⟨b, f82, hb⟩, f83, z1, hz1⟩ := h_prune (d := d) (x := x1) I g82 g83
  obtain ⟨a83, g83⟩ := g83
  rw [g83] at f83
  obtain ⟨z2, hz2⟩ := th.m
  refine sw_aload_n dL_law_1692 rfl ?_
  refine la (M := m_L_law) (j := 1) dL_law_1693 dL_law_1694 dL_law_1696 (by decide) dL_law_1697 dL_law_1698 rfl rfl hx1 (by omega) ?_
  refine sw_aload_n dL_law_1699 rfl ?_
  refine lw_cX (M := m_L_law) (D := d + 20 + 1) dL_law_1700 lx_L_207 mh (by omega) rfl rfl (Nat.le_of_ble_eq_true rfl) (fun _ _ => rfl) rfl ?_
  refine sw_istore dL_law_1703 (by decide) rfl ?_
  refine sw_aload_n dL_law_1705 rfl ?_
  refine la (M := m_L_law) (j := 1) dL_law_1706 dL_law_1707 dL_law_1709 (by decide) dL_law_1710 dL_law_1711 rfl rfl hx1 (by omega) ?_
  refine lw_cV (M := m_L_law) (D := d + 20) (v := .int y) dL_law_1712 lv_L_209 m10 (by omega) (mo_H hz1) rfl (by decide) rfl rfl rfl (Nat.le_of_ble_eq_true rfl) (fun _ _ => rfl) rfl ?_
  refine sw_istore dL_law_1715 (by decide) rfl ?_
  refine sw_aload_n dL_law_1717 rfl ?_
  refine lw_cV (M := m_L_law) (D := d + 20) (v := .int (nI kk)) dL_law_1718 lv_L_138 (r_thrown th) (by omega) (mo_H hz2) rfl (by decide) rfl rfl rfl (Nat.le_of_ble_eq_true rfl) (fun _ _ => rfl) rfl ?_
  refine sw_iload dL_law_1721 rfl ?_
  refine sw_icmp_eq (tgt := 1728) dL_law_1723 (by decide) (fun _ => ?_) (fun q => absurd rfl q)
  refine sw_iload dL_law_1728 rfl ?_
  refine sw_if_ne (tgt := 1745) dL_law_1730 (by decide) (fun q => sw_goto (tgt := 2148) dL_law_1745 (by decide) (sw_fg [false, false, false, false, false, false, true, true, true] rfl (K c2 I2 ⟨_, f82⟩ ⟨_, f83⟩))) (fun q => ?_)
  have k0 : kk = 0 := (i_eq0 (by omega)).mp q
  have hb := hb k0
  subst hb
  refine sw_aload_n dL_law_1733 rfl ?_
  refine sw_iconst (v := 0) dL_law_1734 (by decide) ?_
  refine sw_lald dL_law_1735 (hp_is 82 102 f82 (by decide) (by decide)) (by decide) rfl ?_
  refine sw_iload dL_law_1736 rfl ?_
  refine sw_i2l dL_law_1738 ?_
  refine sw_lcmp dL_law_1739 ?_
  exact sw_if_eq (tgt := 1745) dL_law_1740 (by decide) (fun _ => sw_goto (tgt := 2148) dL_law_1745 (by decide) (sw_fg [false, false, false, false, false, false, true, true, true] rfl (K c2 I2 ⟨_, f82⟩ ⟨_, f83⟩))) (fun q => absurd (lgc _) q)
theorem lc_27 (I : INV c) (g82 : ∃ a, c 82 = [.long a]) (g83 : ∃ a, c 83 = [.double a]) (X : ∀ j, j < 6 → ∃ x, xs[i + j]? = some x) (hi : i < 5000) (K : ∀ c', INV c' → (∃ a, c' 82 = [.long a]) → (∃ a, c' 83 = [.double a]) → SW (some xs) m_L_law (d + 22) rc rs 2148 (LL i) [] (hp c') P) : SW (some xs) m_L_law (d + 22) (rc + 1) (rs + 6) 1748 (LL i) [] (hp c) P := by
  obtain ⟨x1, hx1⟩ := X 1 (by decide)
  obtain ⟨x2, hx2⟩ := X 2 (by decide)
  obtain ⟨kk, y, c1, c2, mh, m10, th, hk5, I2, ⟨b, f82, hb⟩, f83, z1, hz1⟩ := h_swap (d := d) (x := x1) (y := x2) I g82 g83
  obtain ⟨a83, g83⟩ := g83
  rw [g83] at f83
  obtain ⟨z2, hz2⟩ := th.m
  refine sw_aload_n dL_law_1748 rfl ?_
  refine la (M := m_L_law) (j := 1) dL_law_1749 dL_law_1750 dL_law_1752 (by decide) dL_law_1753 dL_law_1754 rfl rfl hx1 (by omega) ?_
  refine la (M := m_L_law) (j := 2) dL_law_1755 dL_law_1756 dL_law_1758 (by decide) dL_law_1759 dL_law_1760 rfl rfl hx2 (by omega) ?_
  refine sw_aload_n dL_law_1761 rfl ?_
  refine lw_cX (M := m_L_law) (D := d + 20 + 1) dL_law_1762 lx_L_210 mh (by omega) rfl rfl (Nat.le_of_ble_eq_true rfl) (fun _ _ => rfl) rfl ?_
  refine sw_istore dL_law_1765 (by decide) rfl ?_
  refine sw_aload_n dL_law_1767 rfl ?_
  refine la (M := m_L_law) (j := 1) dL_law_1768 dL_law_1769 dL_law_1771 (by decide) dL_law_1772 dL_law_1773 rfl rfl hx1 (by omega) ?_
  refine la (M := m_L_law) (j := 2) dL_law_1774 dL_law_1775 dL_law_1777 (by decide) dL_law_1778 dL_law_1779 rfl rfl hx2 (by omega) ?_
  refine lw_cV (M := m_L_law) (D := d + 20) (v := .int y) dL_law_1780 lv_L_212 m10 (by omega) (mo_H hz1) rfl (by decide) rfl rfl rfl (Nat.le_of_ble_eq_true rfl) (fun _ _ => rfl) rfl ?_
  refine sw_istore dL_law_1783 (by decide) rfl ?_
  refine sw_aload_n dL_law_1785 rfl ?_
  refine lw_cV (M := m_L_law) (D := d + 20) (v := .int (nI kk)) dL_law_1786 lv_L_138 (r_thrown th) (by omega) (mo_H hz2) rfl (by decide) rfl rfl rfl (Nat.le_of_ble_eq_true rfl) (fun _ _ => rfl) rfl ?_
  refine sw_iload dL_law_1789 rfl ?_
  refine sw_icmp_eq (tgt := 1796) dL_law_1791 (by decide) (fun _ => ?_) (fun q => absurd rfl q)
  refine sw_iload dL_law_1796 rfl ?_
  refine sw_if_ne (tgt := 1813) dL_law_1798 (by decide) (fun q => sw_goto (tgt := 2148) dL_law_1813 (by decide) (sw_fg [false, false, false, false, false, false, true, true, true] rfl (K c2 I2 ⟨_, f82⟩ ⟨_, f83⟩))) (fun q => ?_)
  have k0 : kk = 0 := (i_eq0 (by omega)).mp q
  have hb := hb k0
  subst hb
  refine sw_aload_n dL_law_1801 rfl ?_
  refine sw_iconst (v := 0) dL_law_1802 (by decide) ?_
  refine sw_lald dL_law_1803 (hp_is 82 102 f82 (by decide) (by decide)) (by decide) rfl ?_
  refine sw_iload dL_law_1804 rfl ?_
  refine sw_i2l dL_law_1806 ?_
  refine sw_lcmp dL_law_1807 ?_
  exact sw_if_eq (tgt := 1813) dL_law_1808 (by decide) (fun _ => sw_goto (tgt := 2148) dL_law_1813 (by decide) (sw_fg [false, false, false, false, false, false, true, true, true] rfl (K c2 I2 ⟨_, f82⟩ ⟨_, f83⟩))) (fun q => absurd (lgc _) q)
theorem lc_28 (I : INV c) (g82 : ∃ a, c 82 = [.long a]) (g83 : ∃ a, c 83 = [.double a]) (X : ∀ j, j < 6 → ∃ x, xs[i + j]? = some x) (hi : i < 5000) (K : ∀ c', INV c' → (∃ a, c' 82 = [.long a]) → (∃ a, c' 83 = [.double a]) → SW (some xs) m_L_law (d + 22) rc rs 2148 (LL i) [] (hp c') P) : SW (some xs) m_L_law (d + 22) (rc + 1) (rs + 6) 1816 (LL i) [] (hp c) P := by
  obtain ⟨x1, hx1⟩ := X 1 (by decide)
  obtain ⟨x2, hx2⟩ := X 2 (by decide)
  obtain ⟨kk, y, c1, c2, mh, m10, th, hk5, I2, ⟨b, f82, hb⟩, f83, z1, hz1⟩ := h_setWeight (d := d) (x := x1) (y := x2) I g82 g83
  obtain ⟨a83, g83⟩ := g83
  rw [g83] at f83
  obtain ⟨z2, hz2⟩ := th.m
  refine sw_aload_n dL_law_1816 rfl ?_
  refine la (M := m_L_law) (j := 1) dL_law_1817 dL_law_1818 dL_law_1820 (by decide) dL_law_1821 dL_law_1822 rfl rfl hx1 (by omega) ?_
  refine la (M := m_L_law) (j := 2) dL_law_1823 dL_law_1824 dL_law_1826 (by decide) dL_law_1827 dL_law_1828 rfl rfl hx2 (by omega) ?_
  refine sw_aload_n dL_law_1829 rfl ?_
  refine lw_cX (M := m_L_law) (D := d + 20 + 1) dL_law_1830 lx_L_213 mh (by omega) rfl rfl (Nat.le_of_ble_eq_true rfl) (fun _ _ => rfl) rfl ?_
  refine sw_istore dL_law_1833 (by decide) rfl ?_
  refine sw_aload_n dL_law_1835 rfl ?_
  refine la (M := m_L_law) (j := 1) dL_law_1836 dL_law_1837 dL_law_1839 (by decide) dL_law_1840 dL_law_1841 rfl rfl hx1 (by omega) ?_
  refine la (M := m_L_law) (j := 2) dL_law_1842 dL_law_1843 dL_law_1845 (by decide) dL_law_1846 dL_law_1847 rfl rfl hx2 (by omega) ?_
  refine lw_cV (M := m_L_law) (D := d + 20) (v := .int y) dL_law_1848 lv_L_215 m10 (by omega) (mo_H hz1) rfl (by decide) rfl rfl rfl (Nat.le_of_ble_eq_true rfl) (fun _ _ => rfl) rfl ?_
  refine sw_istore dL_law_1851 (by decide) rfl ?_
  refine sw_aload_n dL_law_1853 rfl ?_
  refine lw_cV (M := m_L_law) (D := d + 20) (v := .int (nI kk)) dL_law_1854 lv_L_138 (r_thrown th) (by omega) (mo_H hz2) rfl (by decide) rfl rfl rfl (Nat.le_of_ble_eq_true rfl) (fun _ _ => rfl) rfl ?_
  refine sw_iload dL_law_1857 rfl ?_
  refine sw_icmp_eq (tgt := 1864) dL_law_1859 (by decide) (fun _ => ?_) (fun q => absurd rfl q)
  refine sw_iload dL_law_1864 rfl ?_
  refine sw_if_ne (tgt := 1881) dL_law_1866 (by decide) (fun q => sw_goto (tgt := 2148) dL_law_1881 (by decide) (sw_fg [false, false, false, false, false, false, true, true, true] rfl (K c2 I2 ⟨_, f82⟩ ⟨_, f83⟩))) (fun q => ?_)
  have k0 : kk = 0 := (i_eq0 (by omega)).mp q
  have hb := hb k0
  subst hb
  refine sw_aload_n dL_law_1869 rfl ?_
  refine sw_iconst (v := 0) dL_law_1870 (by decide) ?_
  refine sw_lald dL_law_1871 (hp_is 82 102 f82 (by decide) (by decide)) (by decide) rfl ?_
  refine sw_iload dL_law_1872 rfl ?_
  refine sw_i2l dL_law_1874 ?_
  refine sw_lcmp dL_law_1875 ?_
  exact sw_if_eq (tgt := 1881) dL_law_1876 (by decide) (fun _ => sw_goto (tgt := 2148) dL_law_1881 (by decide) (sw_fg [false, false, false, false, false, false, true, true, true] rfl (K c2 I2 ⟨_, f82⟩ ⟨_, f83⟩))) (fun q => absurd (lgc _) q)
theorem lc_29 (I : INV c) (g82 : ∃ a, c 82 = [.long a]) (g83 : ∃ a, c 83 = [.double a]) (X : ∀ j, j < 6 → ∃ x, xs[i + j]? = some x) (hi : i < 5000) (K : ∀ c', INV c' → (∃ a, c' 82 = [.long a]) → (∃ a, c' 83 = [.double a]) → SW (some xs) m_L_law (d + 22) rc rs 2148 (LL i) [] (hp c') P) : SW (some xs) m_L_law (d + 22) (rc + 1) (rs + 6) 1884 (LL i) [] (hp c) P := by
  obtain ⟨x1, hx1⟩ := X 1 (by decide)
  obtain ⟨kk, y, c1, c2, mh, m10, th, hk5, I2, ⟨b, f82, hb⟩, f83, z1, hz1⟩ := h_fromRank (d := d) (x := x1) I g82 g83
  obtain ⟨a83, g83⟩ := g83
  rw [g83] at f83
  obtain ⟨z2, hz2⟩ := th.m
  refine sw_aload_n dL_law_1884 rfl ?_
  refine la (M := m_L_law) (j := 1) dL_law_1885 dL_law_1886 dL_law_1888 (by decide) dL_law_1889 dL_law_1890 rfl rfl hx1 (by omega) ?_
  refine sw_aload_n dL_law_1891 rfl ?_
  refine lw_cX (M := m_L_law) (D := d + 20 + 1) dL_law_1892 lx_L_216 mh (by omega) rfl rfl (Nat.le_of_ble_eq_true rfl) (fun _ _ => rfl) rfl ?_
  refine sw_istore dL_law_1895 (by decide) rfl ?_
  refine sw_aload_n dL_law_1897 rfl ?_
  refine la (M := m_L_law) (j := 1) dL_law_1898 dL_law_1899 dL_law_1901 (by decide) dL_law_1902 dL_law_1903 rfl rfl hx1 (by omega) ?_
  refine lw_cV (M := m_L_law) (D := d + 20) (v := .int y) dL_law_1904 lv_L_218 m10 (by omega) (mo_H hz1) rfl (by decide) rfl rfl rfl (Nat.le_of_ble_eq_true rfl) (fun _ _ => rfl) rfl ?_
  refine sw_istore dL_law_1907 (by decide) rfl ?_
  refine sw_aload_n dL_law_1909 rfl ?_
  refine lw_cV (M := m_L_law) (D := d + 20) (v := .int (nI kk)) dL_law_1910 lv_L_138 (r_thrown th) (by omega) (mo_H hz2) rfl (by decide) rfl rfl rfl (Nat.le_of_ble_eq_true rfl) (fun _ _ => rfl) rfl ?_
  refine sw_iload dL_law_1913 rfl ?_
  refine sw_icmp_eq (tgt := 1920) dL_law_1915 (by decide) (fun _ => ?_) (fun q => absurd rfl q)
  refine sw_iload dL_law_1920 rfl ?_
  refine sw_if_ne (tgt := 1937) dL_law_1922 (by decide) (fun q => sw_goto (tgt := 2148) dL_law_1937 (by decide) (sw_fg [false, false, false, false, false, false, true, true, true] rfl (K c2 I2 ⟨_, f82⟩ ⟨_, f83⟩))) (fun q => ?_)
  have k0 : kk = 0 := (i_eq0 (by omega)).mp q
  have hb := hb k0
  subst hb
  refine sw_aload_n dL_law_1925 rfl ?_
  refine sw_iconst (v := 0) dL_law_1926 (by decide) ?_
  refine sw_lald dL_law_1927 (hp_is 82 102 f82 (by decide) (by decide)) (by decide) rfl ?_
  refine sw_iload dL_law_1928 rfl ?_
  refine sw_i2l dL_law_1930 ?_
  refine sw_lcmp dL_law_1931 ?_
  exact sw_if_eq (tgt := 1937) dL_law_1932 (by decide) (fun _ => sw_goto (tgt := 2148) dL_law_1937 (by decide) (sw_fg [false, false, false, false, false, false, true, true, true] rfl (K c2 I2 ⟨_, f82⟩ ⟨_, f83⟩))) (fun q => absurd (lgc _) q)
theorem lc_30 (I : INV c) (g82 : ∃ a, c 82 = [.long a]) (g83 : ∃ a, c 83 = [.double a]) (X : ∀ j, j < 6 → ∃ x, xs[i + j]? = some x) (hi : i < 5000) (K : ∀ c', INV c' → (∃ a, c' 82 = [.long a]) → (∃ a, c' 83 = [.double a]) → SW (some xs) m_L_law (d + 22) rc rs 2148 (LL i) [] (hp c') P) : SW (some xs) m_L_law (d + 22) (rc + 1) (rs + 6) 1940 (LL i) [] (hp c) P := by
  obtain ⟨a82, g82⟩ := g82
  obtain ⟨a83, g83⟩ := g83
  refine sw_room ?_
  rcases p_nextTree (d := d)  I with ⟨c1, v, m9, hv, b1, k⟩ | ⟨e, c2, v, m9, hv, m10, th, hk, I2, b2⟩
  · obtain ⟨y, rfl⟩ := vt_int (Or.inl rfl) hv
    obtain ⟨c2, m10, th, I2, b2⟩ := k c1 (fun _ _ => rfl)
    obtain ⟨z, hz⟩ := I.m
    have hz1 : c1 70 = moL z := (b1 70 (by decide)).trans hz
    refine sw_aload_n dL_law_1940 rfl ?_
    refine lw_cV (M := m_L_law) (D := d + 20) (v := .int y) dL_law_1941 lv_L_219 m9 (by omega) I.o rfl (by decide) rfl rfl rfl (Nat.le_of_ble_eq_true rfl) (fun _ _ => rfl) rfl ?_
    refine sw_aload_n dL_law_1944 rfl ?_
    refine lw_cV (M := m_L_law) (D := d + 20) (v := .int y) dL_law_1945 lv_L_222 m10 (by omega) (mo_H hz1) rfl (by decide) rfl rfl rfl (Nat.le_of_ble_eq_true rfl) (fun _ _ => rfl) rfl ?_
    exact sw_icmp_eq (tgt := 2148) dL_law_1948 (by decide) (fun _ => K c2 I2 ⟨_, (b2 82 (by decide)).trans ((b1 82 (by decide)).trans g82)⟩ ⟨_, (b2 83 (by decide)).trans ((b1 83 (by decide)).trans g83)⟩) (fun q => absurd rfl q)
  · exact absurd rfl hk
theorem lc_31 (I : INV c) (g82 : ∃ a, c 82 = [.long a]) (g83 : ∃ a, c 83 = [.double a]) (X : ∀ j, j < 6 → ∃ x, xs[i + j]? = some x) (hi : i < 5000) (K : ∀ c', INV c' → (∃ a, c' 82 = [.long a]) → (∃ a, c' 83 = [.double a]) → SW (some xs) m_L_law (d + 22) rc rs 2148 (LL i) [] (hp c') P) : SW (some xs) m_L_law (d + 22) (rc + 1) (rs + 6) 1953 (LL i) [] (hp c) P := by
  obtain ⟨x1, hx1⟩ := X 1 (by decide)
  obtain ⟨kk, y, c1, c2, mh, m10, th, hk5, I2, ⟨b, f82, hb⟩, f83, z1, hz1⟩ := h_keep (d := d) (x := x1) I g82 g83
  obtain ⟨a83, g83⟩ := g83
  rw [g83] at f83
  obtain ⟨z2, hz2⟩ := th.m
  refine sw_aload_n dL_law_1953 rfl ?_
  refine la (M := m_L_law) (j := 1) dL_law_1954 dL_law_1955 dL_law_1957 (by decide) dL_law_1958 dL_law_1959 rfl rfl hx1 (by omega) ?_
  refine sw_aload_n dL_law_1960 rfl ?_
  refine lw_cX (M := m_L_law) (D := d + 20 + 1) dL_law_1961 lx_L_223 mh (by omega) rfl rfl (Nat.le_of_ble_eq_true rfl) (fun _ _ => rfl) rfl ?_
  refine sw_istore dL_law_1964 (by decide) rfl ?_
  refine sw_aload_n dL_law_1966 rfl ?_
  refine la (M := m_L_law) (j := 1) dL_law_1967 dL_law_1968 dL_law_1970 (by decide) dL_law_1971 dL_law_1972 rfl rfl hx1 (by omega) ?_
  refine lw_cV (M := m_L_law) (D := d + 20) (v := .int y) dL_law_1973 lv_L_225 m10 (by omega) (mo_H hz1) rfl (by decide) rfl rfl rfl (Nat.le_of_ble_eq_true rfl) (fun _ _ => rfl) rfl ?_
  refine sw_istore dL_law_1976 (by decide) rfl ?_
  refine sw_aload_n dL_law_1978 rfl ?_
  refine lw_cV (M := m_L_law) (D := d + 20) (v := .int (nI kk)) dL_law_1979 lv_L_138 (r_thrown th) (by omega) (mo_H hz2) rfl (by decide) rfl rfl rfl (Nat.le_of_ble_eq_true rfl) (fun _ _ => rfl) rfl ?_
  refine sw_iload dL_law_1982 rfl ?_
  refine sw_icmp_eq (tgt := 1989) dL_law_1984 (by decide) (fun _ => ?_) (fun q => absurd rfl q)
  refine sw_iload dL_law_1989 rfl ?_
  refine sw_if_ne (tgt := 2013) dL_law_1991 (by decide) (fun q => sw_goto (tgt := 2148) dL_law_2013 (by decide) (sw_fg [false, false, false, false, false, false, true, true, true] rfl (K c2 I2 ⟨_, f82⟩ ⟨_, f83⟩))) (fun q => ?_)
  have k0 : kk = 0 := (i_eq0 (by omega)).mp q
  have hb := hb k0
  subst hb
  refine sw_aload_n dL_law_1994 rfl ?_
  refine sw_iconst (v := 0) dL_law_1995 (by decide) ?_
  refine sw_lald dL_law_1996 (hp_is 82 102 f82 (by decide) (by decide)) (by decide) rfl ?_
  refine sw_iload dL_law_1997 rfl ?_
  refine sw_if_eq (tgt := 2006) dL_law_1999 (by decide) (fun q1 => ?_) (fun q1 => ?_)
  · refine sw_lconst (v := 0) dL_law_2006 (by decide) ?_
    refine sw_lcmp dL_law_2007 ?_
    exact sw_if_eq (tgt := 2013) dL_law_2008 (by decide) (fun _ => sw_goto (tgt := 2148) dL_law_2013 (by decide) (sw_fg [false, false, false, false, false, false, true, true, true] rfl (K c2 I2 ⟨_, f82⟩ ⟨_, f83⟩))) (fun q => absurd (show lg_cmp (if y = 0 then 0 else 1) 0 = 0 from by rw [lj_b q1]; exact lgc _) q)
  · refine sw_lconst (v := 1) dL_law_2002 (by decide) ?_
    refine sw_goto (tgt := 2007) dL_law_2003 (by decide) ?_
    refine sw_lcmp dL_law_2007 ?_
    exact sw_if_eq (tgt := 2013) dL_law_2008 (by decide) (fun _ => sw_goto (tgt := 2148) dL_law_2013 (by decide) (sw_fg [false, false, false, false, false, false, true, true, true] rfl (K c2 I2 ⟨_, f82⟩ ⟨_, f83⟩))) (fun q => absurd (show lg_cmp (if y = 0 then 0 else 1) 1 = 0 from by rw [lj_c q1]; exact lgc _) q)
theorem lc_32 (I : INV c) (g82 : ∃ a, c 82 = [.long a]) (g83 : ∃ a, c 83 = [.double a]) (X : ∀ j, j < 6 → ∃ x, xs[i + j]? = some x) (hi : i < 5000) (K : ∀ c', INV c' → (∃ a, c' 82 = [.long a]) → (∃ a, c' 83 = [.double a]) → SW (some xs) m_L_law (d + 22) rc rs 2148 (LL i) [] (hp c') P) : SW (some xs) m_L_law (d + 22) (rc + 1) (rs + 6) 2016 (LL i) [] (hp c) P := by
  obtain ⟨x1, hx1⟩ := X 1 (by decide)
  obtain ⟨kk, y, c1, c2, mh, m10, th, hk5, I2, ⟨b, f82, hb⟩, f83, z1, hz1⟩ := h_restore (d := d) (x := x1) I g82 g83
  obtain ⟨a83, g83⟩ := g83
  rw [g83] at f83
  obtain ⟨z2, hz2⟩ := th.m
  refine sw_aload_n dL_law_2016 rfl ?_
  refine la (M := m_L_law) (j := 1) dL_law_2017 dL_law_2018 dL_law_2020 (by decide) dL_law_2021 dL_law_2022 rfl rfl hx1 (by omega) ?_
  refine sw_aload_n dL_law_2023 rfl ?_
  refine lw_cX (M := m_L_law) (D := d + 20 + 1) dL_law_2024 lx_L_226 mh (by omega) rfl rfl (Nat.le_of_ble_eq_true rfl) (fun _ _ => rfl) rfl ?_
  refine sw_istore dL_law_2027 (by decide) rfl ?_
  refine sw_aload_n dL_law_2029 rfl ?_
  refine la (M := m_L_law) (j := 1) dL_law_2030 dL_law_2031 dL_law_2033 (by decide) dL_law_2034 dL_law_2035 rfl rfl hx1 (by omega) ?_
  refine lw_cV (M := m_L_law) (D := d + 20) (v := .int y) dL_law_2036 lv_L_228 m10 (by omega) (mo_H hz1) rfl (by decide) rfl rfl rfl (Nat.le_of_ble_eq_true rfl) (fun _ _ => rfl) rfl ?_
  refine sw_istore dL_law_2039 (by decide) rfl ?_
  refine sw_aload_n dL_law_2041 rfl ?_
  refine lw_cV (M := m_L_law) (D := d + 20) (v := .int (nI kk)) dL_law_2042 lv_L_138 (r_thrown th) (by omega) (mo_H hz2) rfl (by decide) rfl rfl rfl (Nat.le_of_ble_eq_true rfl) (fun _ _ => rfl) rfl ?_
  refine sw_iload dL_law_2045 rfl ?_
  refine sw_icmp_eq (tgt := 2052) dL_law_2047 (by decide) (fun _ => ?_) (fun q => absurd rfl q)
  refine sw_iload dL_law_2052 rfl ?_
  refine sw_if_ne (tgt := 2076) dL_law_2054 (by decide) (fun q => sw_goto (tgt := 2148) dL_law_2076 (by decide) (sw_fg [false, false, false, false, false, false, true, true, true] rfl (K c2 I2 ⟨_, f82⟩ ⟨_, f83⟩))) (fun q => ?_)
  have k0 : kk = 0 := (i_eq0 (by omega)).mp q
  have hb := hb k0
  subst hb
  refine sw_aload_n dL_law_2057 rfl ?_
  refine sw_iconst (v := 0) dL_law_2058 (by decide) ?_
  refine sw_lald dL_law_2059 (hp_is 82 102 f82 (by decide) (by decide)) (by decide) rfl ?_
  refine sw_iload dL_law_2060 rfl ?_
  refine sw_if_eq (tgt := 2069) dL_law_2062 (by decide) (fun q1 => ?_) (fun q1 => ?_)
  · refine sw_lconst (v := 0) dL_law_2069 (by decide) ?_
    refine sw_lcmp dL_law_2070 ?_
    exact sw_if_eq (tgt := 2076) dL_law_2071 (by decide) (fun _ => sw_goto (tgt := 2148) dL_law_2076 (by decide) (sw_fg [false, false, false, false, false, false, true, true, true] rfl (K c2 I2 ⟨_, f82⟩ ⟨_, f83⟩))) (fun q => absurd (show lg_cmp (if y = 0 then 0 else 1) 0 = 0 from by rw [lj_b q1]; exact lgc _) q)
  · refine sw_lconst (v := 1) dL_law_2065 (by decide) ?_
    refine sw_goto (tgt := 2070) dL_law_2066 (by decide) ?_
    refine sw_lcmp dL_law_2070 ?_
    exact sw_if_eq (tgt := 2076) dL_law_2071 (by decide) (fun _ => sw_goto (tgt := 2148) dL_law_2076 (by decide) (sw_fg [false, false, false, false, false, false, true, true, true] rfl (K c2 I2 ⟨_, f82⟩ ⟨_, f83⟩))) (fun q => absurd (show lg_cmp (if y = 0 then 0 else 1) 1 = 0 from by rw [lj_c q1]; exact lgc _) q)
theorem lc_33 (I : INV c) (g82 : ∃ a, c 82 = [.long a]) (g83 : ∃ a, c 83 = [.double a]) (X : ∀ j, j < 6 → ∃ x, xs[i + j]? = some x) (hi : i < 5000) (K : ∀ c', INV c' → (∃ a, c' 82 = [.long a]) → (∃ a, c' 83 = [.double a]) → SW (some xs) m_L_law (d + 22) rc rs 2148 (LL i) [] (hp c') P) : SW (some xs) m_L_law (d + 22) (rc + 1) (rs + 6) 2079 (LL i) [] (hp c) P := by
  obtain ⟨a82, g82⟩ := g82
  obtain ⟨a83, g83⟩ := g83
  refine sw_room ?_
  rcases p_undo (d := d)  I with ⟨c1, v, m9, hv, b1, k⟩ | ⟨e, c2, v, m9, hv, m10, th, hk, I2, b2⟩
  · obtain ⟨y, rfl⟩ := vt_int (Or.inl rfl) hv
    obtain ⟨c2, m10, th, I2, b2⟩ := k c1 (fun _ _ => rfl)
    obtain ⟨z, hz⟩ := I.m
    have hz1 : c1 70 = moL z := (b1 70 (by decide)).trans hz
    refine sw_aload_n dL_law_2079 rfl ?_
    refine lw_cV (M := m_L_law) (D := d + 20) (v := .int y) dL_law_2080 lv_L_229 m9 (by omega) I.o rfl (by decide) rfl rfl rfl (Nat.le_of_ble_eq_true rfl) (fun _ _ => rfl) rfl ?_
    refine sw_aload_n dL_law_2083 rfl ?_
    refine lw_cV (M := m_L_law) (D := d + 20) (v := .int y) dL_law_2084 lv_L_232 m10 (by omega) (mo_H hz1) rfl (by decide) rfl rfl rfl (Nat.le_of_ble_eq_true rfl) (fun _ _ => rfl) rfl ?_
    exact sw_icmp_eq (tgt := 2148) dL_law_2087 (by decide) (fun _ => K c2 I2 ⟨_, (b2 82 (by decide)).trans ((b1 82 (by decide)).trans g82)⟩ ⟨_, (b2 83 (by decide)).trans ((b1 83 (by decide)).trans g83)⟩) (fun q => absurd rfl q)
  · exact absurd rfl hk
theorem lc_34 (I : INV c) (g82 : ∃ a, c 82 = [.long a]) (g83 : ∃ a, c 83 = [.double a]) (X : ∀ j, j < 6 → ∃ x, xs[i + j]? = some x) (hi : i < 5000) (K : ∀ c', INV c' → (∃ a, c' 82 = [.long a]) → (∃ a, c' 83 = [.double a]) → SW (some xs) m_L_law (d + 22) rc rs 2148 (LL i) [] (hp c') P) : SW (some xs) m_L_law (d + 22) (rc + 1) (rs + 6) 2092 (LL i) [] (hp c) P := by
  obtain ⟨x1, hx1⟩ := X 1 (by decide)
  obtain ⟨kk, y, c1, c2, mh, m10, th, hk5, I2, ⟨b, f82, hb⟩, f83, z1, hz1⟩ := h_account (d := d) (x := x1) I g82 g83
  obtain ⟨a83, g83⟩ := g83
  rw [g83] at f83
  obtain ⟨z2, hz2⟩ := th.m
  refine sw_aload_n dL_law_2092 rfl ?_
  refine la (M := m_L_law) (j := 1) dL_law_2093 dL_law_2094 dL_law_2096 (by decide) dL_law_2097 dL_law_2098 rfl rfl hx1 (by omega) ?_
  refine sw_aload_n dL_law_2099 rfl ?_
  refine lw_cX (M := m_L_law) (D := d + 20 + 1) dL_law_2100 lx_L_233 mh (by omega) rfl rfl (Nat.le_of_ble_eq_true rfl) (fun _ _ => rfl) rfl ?_
  refine sw_istore dL_law_2103 (by decide) rfl ?_
  refine sw_aload_n dL_law_2105 rfl ?_
  refine la (M := m_L_law) (j := 1) dL_law_2106 dL_law_2107 dL_law_2109 (by decide) dL_law_2110 dL_law_2111 rfl rfl hx1 (by omega) ?_
  refine lw_cV (M := m_L_law) (D := d + 20) (v := .int y) dL_law_2112 lv_L_235 m10 (by omega) (mo_H hz1) rfl (by decide) rfl rfl rfl (Nat.le_of_ble_eq_true rfl) (fun _ _ => rfl) rfl ?_
  refine sw_istore dL_law_2115 (by decide) rfl ?_
  refine sw_aload_n dL_law_2117 rfl ?_
  refine lw_cV (M := m_L_law) (D := d + 20) (v := .int (nI kk)) dL_law_2118 lv_L_138 (r_thrown th) (by omega) (mo_H hz2) rfl (by decide) rfl rfl rfl (Nat.le_of_ble_eq_true rfl) (fun _ _ => rfl) rfl ?_
  refine sw_iload dL_law_2121 rfl ?_
  refine sw_icmp_eq (tgt := 2128) dL_law_2123 (by decide) (fun _ => ?_) (fun q => absurd rfl q)
  refine sw_iload dL_law_2128 rfl ?_
  refine sw_if_ne (tgt := 2145) dL_law_2130 (by decide) (fun q => sw_goto (tgt := 2148) dL_law_2145 (by decide) (sw_fg [false, false, false, false, false, false, true, true, true] rfl (K c2 I2 ⟨_, f82⟩ ⟨_, f83⟩))) (fun q => ?_)
  have k0 : kk = 0 := (i_eq0 (by omega)).mp q
  have hb := hb k0
  subst hb
  refine sw_aload_n dL_law_2133 rfl ?_
  refine sw_iconst (v := 0) dL_law_2134 (by decide) ?_
  refine sw_lald dL_law_2135 (hp_is 82 102 f82 (by decide) (by decide)) (by decide) rfl ?_
  refine sw_iload dL_law_2136 rfl ?_
  refine sw_i2l dL_law_2138 ?_
  refine sw_lcmp dL_law_2139 ?_
  exact sw_if_eq (tgt := 2145) dL_law_2140 (by decide) (fun _ => sw_goto (tgt := 2148) dL_law_2145 (by decide) (sw_fg [false, false, false, false, false, false, true, true, true] rfl (K c2 I2 ⟨_, f82⟩ ⟨_, f83⟩))) (fun q => absurd (lgc _) q)
end
