/-! a call with a text below it on the stack -/
section
variable {sc : Option (List Int32)} {M N : ab_M} {d d1 rc rs mc ms pc : Nat} {ls : List (Option Value)} {st : List Value} {h : ab_H} {P P1 : ab_O → ab_H → Prop}
theorem sw_callVt {idx n r ci : Nat} {fs : List Value} {q : vw_C} {As : List Value} (hd : decode M.2.1 pc = .ok (.invokevirtual idx, 3)) (hL : ab_LV M.1.cls idx N n) (hm : MS N d1 mc ms (.ref r :: As) h P1) (hrc : h[r]? = some (ci, fs)) (hcl : ab_cl[ci]? = some q) (hci : ci < 100) (hqn : q.1 = N.1.cls) (hd1 : d1 + 1 ≤ d) (hn : As.length = n) {st1 : List Value} (hst : st1 = As.reverse ++ .ref r :: st) (hc : (st.map fun v => v.category).sum ≤ 8) (hr : ∀ (σ : Nat → Nat) (τ : Nat → Value), (∀ i, i < 6 → (τ i).category = 1) → (st.map (ab_v σ τ)).map (fun v => v.category) = st.map fun v => v.category) (ha : ∀ σ τ v, v ∈ As → (∃ k, v = .retAddr k) ∨ (ab_v σ τ v).category = 1) (ht : ∀ k, .retAddr k ∈ As → k < 6)
    (kk : ∀ v h1, P1 (.inl v) h1 → SW sc M d rc rs (pc + 3) ls (v.toList ++ st) h1 P) (kx : ∀ E h1, P1 (.inr E) h1 → ST sc M d rc rs pc ls h1 E P) : SW sc M d (rc + mc) (rs + ms) pc ls st1 h P := by
  intro p l e R s m args below meth c Q D dA τ A σ0 n0 Cm Sm hX σ H locs cells slots lv hY hl hol hos
  subst hst
  have hcat : ∀ v ∈ (.ref r :: As), (ab_v σ τ v).category = 1 := fun v hv => by
    rcases List.mem_cons.mp hv with rfl | hv
    · rfl
    · rcases ha σ τ v hv with ⟨k, rfl⟩ | h1
      · obtain ⟨a, e1⟩ := ab_G.txt hX.2.2.2.2.2.2.2.2.2.2.1 (Or.inl (ht k hv))
        show (τ k).category = 1
        rw [e1]; rfl
      · exact h1
  have hoA : ab_okS h.length (.ref r :: As) := fun v hv => by
    rcases List.mem_cons.mp hv with rfl | hv
    · exact hos _ (List.mem_append_right _ List.mem_cons_self)
    · exact hos v (List.mem_append_left _ (List.mem_reverse.mpr hv))
  have hoS : ab_okS h.length st := fun v hv => hos v (List.mem_append_right _ (List.mem_cons_of_mem _ hv))
  obtain ⟨y1, y2, y3, y4, y5, y6, y7, y8⟩ := id hY
  have htx : ∀ i, i < 6 → (τ i).category = 1 := fun i hi => by
    obtain ⟨a, e1⟩ := ab_G.txt hX.2.2.2.2.2.2.2.2.2.2.1 (Or.inl hi)
    rw [e1]; rfl
  have hM := hm l hX.2.1 D dA τ σ H.size y4 hoA hcat
  obtain ⟨x1, -, x3, x4, -, -, x7, -, -, x10, x11, x12, -, -, x15, x16, -, -⟩ := id hX
  have hst2 : (F0 m pc lv ((As.reverse ++ .ref r :: st).map (ab_v σ τ))).stack = (As.map (ab_v σ τ)).reverse ++ .ref (σ r) :: st.map (ab_v σ τ) := by
    show (As.reverse ++ .ref r :: st).map (ab_v σ τ) = _
    rw [List.map_append, List.map_reverse]; rfl
  have hF : ∀ q, va_A (ab_w dA σ τ h) H.size q → A q := fun q hq => by
    rcases hq with ⟨k, e, hk⟩ | hq
    · exact y2.2 k (q, e) hk
    · exact x12 q (Nat.le_trans y3.1 hq)
  have hrecv : ∃ cell : Cell, H[σ r]? = some cell ∧ cell.vm.isStatics = false ∧ s.vm.findClass N.1.cls = some cell.cls := by
    rw [← hqn]; exact va_recv x11.1 y1 hcl (ab_w_obj hrc hci)
  have hpre : PreV s H N.1.cls (σ r) (va_Pc ((.ref r :: As).map (ab_v σ τ)) (ab_B D dA τ σ h H.size)) (As.map (ab_v σ τ)) := ⟨ab_blind, hrecv, fun U hU hW => ⟨rfl, by rw [hU], x11.call y3 hU hW hF, by rw [hU]; exact y1, y2.weaken (fun _ _ _ _ => trivial)⟩⟩
  rcases ab_callB (mc := mc) (ms := ms) hX hL.1 hd1 with cb | ⟨host, cb⟩
  · exact ab_back hX hY hl hol hoS (vx_runV (C := N.1.cls) ⟨x1, x3, x4, x7, x10⟩ hM ⟨cb, x10 _ hL.2.1, x10 _ hL.2.2⟩ hpre rfl (by rw [List.length_map]; exact hn) hl.1 hst2 (ab_sumcat (hr σ τ htx) hc) hd ⟨by omega, by omega⟩) kk kx
  · exact ab_back hX hY hl hol hoS (vx_runVN (C := N.1.cls) ⟨x1, x3, x4, x7, x10⟩ hM ⟨cb, x10 _ hL.2.1, x10 _ hL.2.2⟩ hpre rfl (by rw [List.length_map]; exact hn) hl.1 hst2 (ab_sumcat (hr σ τ htx) hc) hd ⟨by omega, by omega⟩) kk kx
theorem sw_cVt {idx n r ci : Nat} {v : Option Value} {h2 : ab_H} {fs : List Value} {q : vw_C} {As : List Value} (hd : decode M.2.1 pc = .ok (.invokevirtual idx, 3)) (hL : ab_LV M.1.cls idx N n) (hm : MSE N d (.ref r :: As) h v h2) (hrc : h[r]? = some (ci, fs)) (hcl : ab_cl[ci]? = some q) (hci : ci < 100) (hqn : q.1 = N.1.cls) (hn : As.length = n) {st1 : List Value} (hst : st1 = As.reverse ++ .ref r :: st) (hc : (st.map fun v => v.category).sum ≤ 8) (hr : ∀ (σ : Nat → Nat) (τ : Nat → Value), (∀ i, i < 6 → (τ i).category = 1) → (st.map (ab_v σ τ)).map (fun v => v.category) = st.map fun v => v.category) (ha : ab_ac As = true)
    (k : SW sc M (d + 1) rc rs (pc + 3) ls (v.toList ++ st) h2 P) : SW sc M (d + 1) rc rs pc ls st1 h P :=
  sw_callVt (mc := 0) (ms := 0) hd hL hm hrc hcl hci hqn (Nat.le_refl _) hn hst hc hr (ab_ac_ok ha) (ab_ac_t ha) (fun w h1 e => by obtain ⟨e1, rfl⟩ := e; cases e1; exact k) (fun E h1 e => by cases e.1)
end
