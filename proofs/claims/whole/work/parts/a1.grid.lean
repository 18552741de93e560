section AB9
variable {sc : Option (List Int32)} {M : ab_M} {d rc rs pc : Nat} {ls : List (Option Value)} {st : List Value} {h : ab_H} {P : ab_O → ab_H → Prop}
/-- a grid of N rows of K ints, at the places from n0 on -/
def ab_gr (n0 N K : Nat) : ab_H := (104, (List.range N).map (fun i => .ref (n0 + 1 + i))) :: List.replicate N (100, List.replicate K (.int 0))
theorem ab_gr_ln {n0 N K : Nat} : (ab_gr n0 N K).length = 1 + N := by
  unfold ab_gr
  rw [List.length_cons, List.length_replicate]; omega
theorem ab_gr_at {N K i : Nat} {c : Nat × List Value} (hi : (h ++ ab_gr h.length N K)[i]? = some c) : (i < h.length ∧ h[i]? = some c) ∨ (i = h.length ∧ c = (104, (List.range N).map (fun j => .ref (h.length + 1 + j)))) ∨ ∃ j, j < N ∧ i = h.length + 1 + j ∧ c = (100, List.replicate K (.int 0)) := by
  by_cases hl : i < h.length
  · rw [List.getElem?_append_left hl] at hi
    exact Or.inl ⟨hl, hi⟩
  · rw [List.getElem?_append_right (by omega)] at hi
    obtain ⟨j, hj⟩ : ∃ j, j = i - h.length := ⟨_, rfl⟩
    rw [← hj] at hi
    cases j with
    | zero =>
      have e : some (104, (List.range N).map (fun j => Value.ref (h.length + 1 + j))) = some c := hi
      cases e
      exact Or.inr (Or.inl ⟨by omega, rfl⟩)
    | succ j =>
      have e : (List.replicate N (100, List.replicate K (Value.int 0)))[j]? = some c := hi
      rw [List.getElem?_replicate] at e
      by_cases hN : j < N
      · rw [if_pos hN] at e
        cases e
        exact Or.inr (Or.inr ⟨j, hN, by omega, rfl⟩)
      · rw [if_neg hN] at e; cases e
theorem sw_grid {idx : Nat} {n k : Int32} {N K : Nat} (hd : decode M.2.1 pc = .ok (.multianewarray idx 2, 4)) (hcl : Cond.classLink M.1.cls idx "[[I" ∈ ab_big) (hai : Cond.arrayClass .int ∈ ab_big) (hn : ¬ n < 0) (hN : n.toNatClampNeg = N) (hk : ¬ k < 0) (hK : k.toNatClampNeg = K) (b1 : N ≤ 1000) (b2 : K ≤ 1000) (kk : SW sc M d rc rs (pc + 4) ls (.ref h.length :: st) (h ++ ab_gr h.length N K) P) : SW sc M d (rc + (1 + N)) (rs + (N + N * K)) pc ls (.int k :: .int n :: st) h P := by
  intro p l e R s m args below meth c Q D dA τ A σ0 n0 Cm Sm hX σ H locs cells slots lv hY hl hol hos
  have hts := hX.2.2.2.2.2.2.2.2.2.1
  have hG := hX.2.2.2.2.2.2.2.2.2.2.1
  have hown := hX.2.2.2.2.2.2.1
  obtain ⟨-, -, -, -, -, -, -, -, -, -, -, x12, x13, x14, x15, x16, -, -⟩ := id hX
  obtain ⟨y1, y2, y3, y4, y5, y6, y7, y8⟩ := id hY
  obtain ⟨cI, cA, kA, w1, w2, w3, w4⟩ := mn_words (args := #[]) hG.2.2.2.2.2.2.2.2.2.1
  obtain ⟨cI', kI, cc, v1, v2, v3⟩ := Cond.arrayClass_spec (hts _ hai)
  have v1' : s.vm.findClass "[I" = some cI' := v1
  cases w1.symm.trans v1'
  have r4 : s.vm.findClass ("[" ++ (FieldType.array .int).toString) = some (dA 4) := (hG.1.2 4 (dA 4, .array .int) rfl).2
  have r0 : s.vm.findClass ("[" ++ FieldType.int.toString) = some (dA 0) := (hG.1.2 0 (dA 0, .int) rfl).2
  rw [show "[" ++ (FieldType.array .int).toString = "[[I" by decide +kernel] at r4
  rw [show "[" ++ FieldType.int.toString = "[I" by decide +kernel] at r0
  cases w2.symm.trans r4
  cases w1.symm.trans r0
  intro T hT X
  subst hT
  obtain ⟨vm1, locs', hq, X', st'⟩ := mn_step (N := N) (K := K) X hX.1 hown (hts _ hcl) w2 w3 w4 v2 v3 (g := F0 m pc lv ((Value.int k :: .int n :: st).map (ab_v σ τ))) rfl (by rw [hX.2.2.1]; exact hd) rfl hn hN hk hK b1 b2 (by omega) (by omega)
  obtain ⟨⟨a1, -, -⟩, a4, a5, a6⟩ := grd_ok (cA := dA 4) (cI := dA 0) (N := N) (K := K) (T := T.setVm vm1) N
  obtain ⟨H1, hH1⟩ : ∃ H1, (grd (dA 4) (dA 0) N K (T.setVm vm1) N).heap = H1 := ⟨_, rfl⟩
  rw [hH1] at a1 a4 a5 a6
  have a1 : H1.size = T.heap.size + 1 + N := a1
  have a4 : H1[T.heap.size]? = some (grd_o (dA 4) N T.heap.size N) := a4
  have a5 : ∀ a, a < T.heap.size → H1[a]? = T.heap[a]? := a5
  have a6 : ∀ j, j < N → H1[T.heap.size + 1 + j]? = some (grd_i (dA 0) K) := a6
  obtain ⟨σ', hσ⟩ : ∃ σ' : Nat → Nat, σ' = fun i => if i < h.length then σ i else T.heap.size + (i - h.length) := ⟨_, rfl⟩
  have s1 : ∀ i, i < h.length → σ' i = σ i := fun i hi => by rw [hσ]; exact if_pos hi
  have s2 : ∀ i, h.length ≤ i → σ' i = T.heap.size + (i - h.length) := fun i hi => by rw [hσ]; exact if_neg (by omega)
  have hx : ab_ext σ σ' h.length := s1
  have key : ∀ (i : Nat) (q : Nat × va_E), (ab_w dA σ' τ (h ++ ab_gr h.length N K))[i]? = some q → ∃ c, (h ++ ab_gr h.length N K)[i]? = some c ∧ q = (σ' i, ab_e dA σ' τ c) := fun i q hi => by
    unfold ab_w at hi
    rw [List.getElem?_mapIdx] at hi
    obtain ⟨c, h1, h2⟩ := Option.map_eq_some_iff.mp hi
    exact ⟨c, h1, h2.symm⟩
  have lo : ∀ (i : Nat) (c : Nat × List Value), h[i]? = some c → σ i < T.heap.size := fun i c hc => (y1 i _ (ab_w_at hc)).lt
  have ln : (h ++ ab_gr h.length N K).length = h.length + (1 + N) := by rw [List.length_append, ab_gr_ln]
  have hY' : ab_Y s D dA τ A σ0 n0 Cm Sm rc rs σ' (h ++ ab_gr h.length N K) H1 locs' (cells + 1 + N) (slots + N + N * K) := by
    refine ⟨fun i q hi => ?_, ⟨fun i j a b hi hj hab => ?_, fun i q hi => ?_⟩, ⟨?_, fun q h1 h2 => (a5 q (by have := y3.1; omega)).trans (y3.2.1 q h1 h2), fun q hq1 => ?_⟩, fun c hc => ?_, ab_ext_tr y5 hx y6, by omega, by omega, by omega⟩
    · obtain ⟨c, h1, rfl⟩ := key i q hi
      rcases ab_gr_at h1 with ⟨g1, g2⟩ | ⟨g1, g2⟩ | ⟨j, g1, g2, g3⟩
      · rw [ab_e_ext hx (y4 c (List.mem_of_getElem? g2)), s1 i g1]
        exact (y1 i _ (ab_w_at g2)).kept (a5 _ (lo i c g2))
      · subst g2
        rw [ab_e_q, s2 i (by omega), show T.heap.size + (i - h.length) = T.heap.size by omega]
        refine a4.trans (congrArg some ?_)
        rw [List.length_map, List.length_range]
        show arrV (dA 4) N (fun j => if j < N then .ref (T.heap.size + 1 + j) else .null) = arrV (dA 4) N (fun j => va_rf (ab_q σ' (((List.range N).map (fun j => Value.ref (h.length + 1 + j))).getD j .null)))
        refine congrArg (arrV (dA 4) N) (funext fun j => ?_)
        by_cases hj : j < N
        · rw [if_pos hj, List.getD_eq_getElem?_getD, List.getElem?_map, List.getElem?_range hj]
          show Value.ref (T.heap.size + 1 + j) = Value.ref (σ' (h.length + 1 + j))
          rw [s2 (h.length + 1 + j) (by omega), show h.length + 1 + j - h.length = 1 + j by omega, ← Nat.add_assoc]
        · rw [if_neg hj, List.getD_eq_getElem?_getD, List.getElem?_eq_none (by rw [List.length_map, List.length_range]; omega)]
          rfl
      · subst g3
        rw [ab_e_i, ab_newI rfl, List.length_replicate, s2 i (by omega), show T.heap.size + (i - h.length) = T.heap.size + 1 + j by omega]
        exact a6 j g1
    · obtain ⟨c, h1, rfl⟩ := key i a hi
      obtain ⟨c2, h2, rfl⟩ := key j b hj
      have hab : σ' i = σ' j := hab
      by_cases q1 : i < h.length
      · rcases ab_gr_at h1 with ⟨g1, g2⟩ | ⟨g1, g2⟩ | ⟨_, _, g2, _⟩
        · have := lo i c g2
          rw [s1 i q1] at hab
          by_cases q2 : j < h.length
          · rcases ab_gr_at h2 with ⟨g3, g4⟩ | ⟨g3, g4⟩ | ⟨_, _, g4, _⟩
            · rw [s1 j q2] at hab
              exact y2.1 i j _ _ (ab_w_at g2) (ab_w_at g4) hab
            · omega
            · omega
          · rw [s2 j (by omega)] at hab; omega
        · omega
        · omega
      · rw [s2 i (by omega)] at hab
        by_cases q2 : j < h.length
        · rcases ab_gr_at h2 with ⟨g3, g4⟩ | ⟨g3, g4⟩ | ⟨_, _, g4, _⟩
          · have := lo j c2 g4
            rw [s1 j q2] at hab; omega
          · omega
          · omega
        · rw [s2 j (by omega)] at hab; omega
    · obtain ⟨c, h1, rfl⟩ := key i q hi
      show A (σ' i)
      rcases ab_gr_at h1 with ⟨g1, g2⟩ | ⟨g1, g2⟩ | ⟨_, _, g2, _⟩
      · rw [s1 i g1]
        exact y2.2 i _ (ab_w_at g2)
      · rw [s2 i (by omega)]; exact x12 _ (by have := y3.1; omega)
      · rw [s2 i (by omega)]; exact x12 _ (by have := y3.1; omega)
    · have := y3.1; omega
    · rcases hq q hq1 with h1 | h1
      · exact y3.2.2 q h1
      · rw [h1]; exact x12 _ y3.1
    · rw [ln]
      rcases List.mem_append.mp hc with h1 | h1
      · exact ab_okS_mono (by omega) (y4 c h1)
      · rcases List.mem_cons.mp h1 with h2 | h2
        · rw [h2]
          intro v hv
          obtain ⟨j, hj, rfl⟩ := List.mem_map.mp hv
          have := List.mem_range.mp hj
          show h.length + 1 + j < _
          omega
        · rw [List.eq_of_mem_replicate h2]
          intro v hv
          rw [List.eq_of_mem_replicate hv]
          trivial
  have kw := kk.use hX hY' (by rw [ab_l_ext hx hol]; exact hl) (ab_okL_mono (by omega) hol) (ab_okS_cons (by show h.length < _; omega) (ab_okS_mono (by omega) (ab_okS_tl (ab_okS_tl hos))))
  rw [List.map_cons, ab_map_ext hx (ab_okS_tl (ab_okS_tl hos))] at kw
  have e5 : ab_v σ' τ (.ref h.length) = .ref T.heap.size := congrArg Value.ref (by rw [s2 _ (Nat.le_refl _), Nat.sub_self, Nat.add_zero])
  rw [e5] at kw
  obtain ⟨t, q1, q2⟩ := kw _ hH1 X'
  exact ⟨t, st' t q1, q2⟩
end AB9
