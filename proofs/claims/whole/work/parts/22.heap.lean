section AB2
variable {sc : Option (List Int32)} {M : ab_M} {d rc rs pc : Nat} {ls : List (Option Value)} {st : List Value} {h : ab_H} {P : ab_O → ab_H → Prop}
/-- where a field instruction of a class goes: the kind and the slot -/
def ab_LF (own : String) (idx ci k : Nat) : Prop := ∃ (C : String) (T : u_T) (N : Nat), ab_cl[ci]? = some (C, T, N) ∧ ci < 100 ∧ k < N ∧ (T k).1 = C ∧
  (Cond.fieldLink own idx C (T k).2.1 (T k).2.2.1 ∈ ab_big ∨ ∃ host, Cond.fieldLinkNest own idx C (T k).2.1 (T k).2.2.1 host ∈ ab_nest) ∧ (∀ w ∈ u_ws C T N, w ∈ ab_big)
def ab_LP (own : String) (idx ci k : Nat) (fin : Bool) (ty : FieldType) : Prop := ∃ (C : String) (T : u_T) (N : Nat) (ty0 : Nat → FieldType), ab_cl[ci]? = some (C, T, N) ∧ ci < 100 ∧ k < N ∧ (T k).1 = C ∧
  (Cond.fieldLink own idx C (T k).2.1 (T k).2.2.1 ∈ ab_big ∨ (fin = false ∧ ∃ host, Cond.fieldLinkNest own idx C (T k).2.1 (T k).2.2.1 host ∈ ab_nest)) ∧ (∀ w ∈ u_ws C T N, w ∈ ab_big) ∧
  (∀ j, j < N → parseFieldDescriptor (T j).2.2.1 = some (ty0 j)) ∧ (∀ a, a < N → ∀ b, b < N → a ≠ b → (T a).2.1 ≠ (T b).2.1) ∧ (T k).2.2.2 = fin ∧ parseFieldDescriptor (T k).2.2.1 = some ty ∧ (fin = true → C = own)
def ab_LN (own : String) (idx ci N : Nat) (fs : List Value) : Prop := ∃ (C : String) (T : u_T) (ty : Nat → FieldType), ab_cl[ci]? = some (C, T, N) ∧ ci < 100 ∧ Cond.classLink own idx C ∈ ab_big ∧ Cond.instantiable C N ∈ ab_big ∧ Cond.initialized C ∈ ab_big ∧ (∀ w ∈ u_ws C T N, w ∈ ab_big) ∧
  (∀ j, j < N → parseFieldDescriptor (T j).2.2.1 = some (ty j)) ∧ (∀ (σ : Nat → Nat) (τ : Nat → Value) (j : Nat), j < N → defaultValue (ty j) = vp_V (fs.map (ab_v σ τ)) j) ∧ ∀ n, ab_okS n fs
theorem ab_w_obj {dA : Nat → ClassId} {σ : Nat → Nat} {τ : Nat → Value} {r ci : Nat} {fs : List Value} (hc : h[r]? = some (ci, fs)) (hci : ci < 100) : (ab_w dA σ τ h)[r]? = some (σ r, .inr (ci, fs.map (ab_v σ τ))) := by
  rw [ab_w_at hc]
  unfold ab_e
  rw [if_pos hci]
theorem ab_e_i {dA : Nat → ClassId} {σ : Nat → Nat} {τ : Nat → Value} {vs : List Value} : ab_e dA σ τ (100, vs) = .inl (dA 0, vs.length, .inl (fun j => ab_i (vs.getD j .null))) := rfl
theorem ab_e_b {dA : Nat → ClassId} {σ : Nat → Nat} {τ : Nat → Value} {vs : List Value} : ab_e dA σ τ (101, vs) = .inl (dA 1, vs.length, .inl (fun j => ab_i (vs.getD j .null))) := rfl
theorem ab_e_l {dA : Nat → ClassId} {σ : Nat → Nat} {τ : Nat → Value} {vs : List Value} : ab_e dA σ τ (102, vs) = .inl (dA 2, vs.length, .inr (.inl (fun j => ab_j (vs.getD j .null)))) := rfl
theorem ab_e_d {dA : Nat → ClassId} {σ : Nat → Nat} {τ : Nat → Value} {vs : List Value} : ab_e dA σ τ (103, vs) = .inl (dA 3, vs.length, .inr (.inr (.inr (.inl (fun j => ab_d (vs.getD j .null)))))) := rfl
theorem ab_e_q {dA : Nat → ClassId} {σ : Nat → Nat} {τ : Nat → Value} {vs : List Value} : ab_e dA σ τ (104, vs) = .inl (dA 4, vs.length, .inr (.inr (.inr (.inr (fun j => ab_q σ (vs.getD j .null)))))) := rfl
theorem ab_wf_at (hw : ab_wf h) {r : Nat} {c : Nat × List Value} (hc : h[r]? = some c) : ab_okS h.length c.2 := hw c (List.mem_of_getElem? hc)
theorem ab_okS_at {n : Nat} {vs : List Value} (h : ab_okS n vs) {k : Nat} {v : Value} (hv : vs[k]? = some v) : ab_ok n v := h v (List.mem_of_getElem? hv)
theorem ab_okS_set {n : Nat} {vs : List Value} (h : ab_okS n vs) {k : Nat} {v : Value} (hv : ab_ok n v) : ab_okS n (vs.set k v) := fun w hw => by
  rcases List.mem_or_eq_of_mem_set hw with h1 | h1
  · exact h w h1
  · rw [h1]; exact hv
theorem sw_getf {idx ci k r : Nat} {fs : List Value} {v : Value} (hd : decode M.2.1 pc = .ok (.getfield idx, 3)) (hL : ab_LF M.1.cls idx ci k) (hc : h[r]? = some (ci, fs)) (hv : fs[k]? = some v) (kk : SW sc M d rc rs (pc + 3) ls (v :: st) h P) : SW sc M d rc rs pc ls (.ref r :: st) h P := by
  intro p l e R s m args below meth c Q D dA τ A σ0 n0 Cm Sm hX σ H locs cells slots lv hY hl hol hos
  obtain ⟨C, T, N, l1, l2, l3, l4, l5, l6⟩ := hL
  have hts := hX.2.2.2.2.2.2.2.2.2.1
  have hG := hX.2.2.2.2.2.2.2.2.2.2.1
  have hown := hX.2.2.2.2.2.2.1
  have kw := kk.use hX hY hl hol (ab_okS_cons (ab_okS_at (ab_wf_at hY.2.2.2.1 hc) hv) (ab_okS_tl hos))
  have hv' : (fs.map (ab_v σ τ))[k]? = some (ab_v σ τ v) := by rw [List.getElem?_map, hv]; rfl
  rcases l5 with l5 | ⟨host, l5⟩
  · exact va_get (ref := C) hX.1 hX.2.2.1 hts l6 hown hG.1 hY.1 r (ab_w_obj hc l2) l1 k l3 (hts _ l5) (by rw [l4]; exact fun _ q => q) hv' hd kw
  · exact va_getN (ref := C) hX.1 hX.2.2.1 hts l6 hown hG.1 hY.1 r (ab_w_obj hc l2) l1 k l3 (va_Nw.use rfl (hG.2.1 _ l5)) (by rw [l4]; exact fun _ q => q) hv' hd kw
theorem ab_Y.upd {s : State} {D : va_G} {dA : Nat → ClassId} {τ : Nat → Value} {A : Nat → Prop} {σ0 σ : Nat → Nat} {n0 Cm Sm cells slots : Nat} {H H1 : Heap} {locs locs1 : List Loc} (hY : ab_Y s D dA τ A σ0 n0 Cm Sm rc rs σ h H locs cells slots) {r : Nat} {c : Nat × List Value} (hc : ab_okS h.length c.2) {e : va_E} (he : ab_e dA σ τ c = e)
    (hP : va_P D ab_cl ((ab_w dA σ τ h).set r (σ r, e)) H1) (hD : va_D A ((ab_w dA σ τ h).set r (σ r, e))) (hS : va_S A s.heap H1 locs1) : ab_Y s D dA τ A σ0 n0 Cm Sm rc rs σ (h.set r c) H1 locs1 cells slots := by
  obtain ⟨y1, y2, y3, y4, y5, y6, y7, y8⟩ := hY
  subst he
  exact ⟨by rw [ab_w_set]; exact hP, by rw [ab_w_set]; exact hD, hS, ab_wf_set y4 hc, y5, by rw [List.length_set]; exact y6, y7, y8⟩
theorem sw_putf {idx ci k r : Nat} {fs : List Value} {v : Value} {ty : FieldType} (hd : decode M.2.1 pc = .ok (.putfield idx, 3)) (hL : ab_LP M.1.cls idx ci k false ty) (hc : h[r]? = some (ci, fs)) (hk : k < fs.length) (hn : ∀ σ τ, narrow ty (ab_v σ τ v) = ab_v σ τ v ∧ fits ty (ab_v σ τ v) = true) (kk : SW sc M d rc rs (pc + 3) ls st (h.set r (ci, fs.set k v)) P) : SW sc M d rc rs pc ls (v :: .ref r :: st) h P := by
  intro p l e R s m args below meth c Q D dA τ A σ0 n0 Cm Sm hX σ H locs cells slots lv hY hl hol hos
  obtain ⟨C, T, N, ty0, l1, l2, l3, l4, l5, l6, l7, l8, l9, l10, -⟩ := hL
  have hts := hX.2.2.2.2.2.2.2.2.2.1
  have hG := hX.2.2.2.2.2.2.2.2.2.2.1
  have hown := hX.2.2.2.2.2.2.1
  have hok := ab_okS_set (k := k) (ab_wf_at hY.2.2.2.1 hc) (ab_okS_hd hos)
  have hos' := ab_okS_tl (ab_okS_tl hos)
  have he : ab_e dA σ τ (ci, fs.set k v) = .inr (ci, (fs.map (ab_v σ τ)).set k (ab_v σ τ v)) := by
    unfold ab_e
    rw [if_pos l2, List.map_set]
  have hlen : (h.set r (ci, fs.set k v)).length = h.length := List.length_set
  rcases l5 with l5 | ⟨-, host, l5⟩
  · exact va_put (ref := C) hX.1 hX.2.2.1 hts l6 ty0 l7 l8 hown hG.1 hY.1 hY.2.1 hY.2.2.1 r (ab_w_obj hc l2) l1 k l3 (hts _ l5) (by rw [l4]; exact fun _ q => q) l9 l10 (hn σ τ).1 (hn σ τ).2 (by rw [List.length_map]; exact hk) hd (fun H1 locs1 hP hD hS => kk.use hX (hY.upd hok he hP hD hS) hl (by rw [hlen]; exact hol) (by rw [hlen]; exact hos'))
  · exact va_putN (ref := C) hX.1 hX.2.2.1 hts l6 ty0 l7 l8 hown hG.1 hY.1 hY.2.1 hY.2.2.1 r (ab_w_obj hc l2) l1 k l3 (va_Nw.use rfl (hG.2.1 _ l5)) (by rw [l4]; exact fun _ q => q) l9 l10 (hn σ τ).1 (hn σ τ).2 (by rw [List.length_map]; exact hk) hd (fun H1 locs1 hP hD hS => kk.use hX (hY.upd hok he hP hD hS) hl (by rw [hlen]; exact hol) (by rw [hlen]; exact hos'))
/-- a final field, in the constructor of its own class -/
theorem sw_putF {idx ci k r : Nat} {fs : List Value} {v : Value} {ty : FieldType} (hd : decode M.2.1 pc = .ok (.putfield idx, 3)) (hi : M.1.name = "<init>") (hL : ab_LP M.1.cls idx ci k true ty) (hc : h[r]? = some (ci, fs)) (hk : k < fs.length) (hn : ∀ σ τ, narrow ty (ab_v σ τ v) = ab_v σ τ v ∧ fits ty (ab_v σ τ v) = true) (kk : SW sc M d rc rs (pc + 3) ls st (h.set r (ci, fs.set k v)) P) : SW sc M d rc rs pc ls (v :: .ref r :: st) h P := by
  intro p l e R s m args below meth c Q D dA τ A σ0 n0 Cm Sm hX σ H locs cells slots lv hY hl hol hos
  obtain ⟨C, T, N, ty0, l1, l2, l3, l4, l5, l6, l7, l8, l9, l10, l11⟩ := hL
  have hts := hX.2.2.2.2.2.2.2.2.2.1
  have hG := hX.2.2.2.2.2.2.2.2.2.2.1
  have hown := hX.2.2.2.2.2.2.1
  have hok := ab_okS_set (k := k) (ab_wf_at hY.2.2.2.1 hc) (ab_okS_hd hos)
  have hos' := ab_okS_tl (ab_okS_tl hos)
  have he : ab_e dA σ τ (ci, fs.set k v) = .inr (ci, (fs.map (ab_v σ τ)).set k (ab_v σ τ v)) := by
    unfold ab_e
    rw [if_pos l2, List.map_set]
  have hlen : (h.set r (ci, fs.set k v)).length = h.length := List.length_set
  rcases l5 with l5 | ⟨l5, -⟩
  · exact va_putF (ref := C) hX.1 hX.2.2.1 hts l6 ty0 l7 l8 hown hG.1 hY.1 hY.2.1 hY.2.2.1 r (ab_w_obj hc l2) l1 k l3 (hts _ l5) (by rw [l4]; exact fun _ q => q) l9 (by rw [hX.2.2.2.2.2.2.2.1]; exact hi) (by rw [l4]; exact l11 rfl) l10 (hn σ τ).1 (hn σ τ).2 (by rw [List.length_map]; exact hk) hd (fun H1 locs1 hP hD hS => kk.use hX (hY.upd hok he hP hD hS) hl (by rw [hlen]; exact hol) (by rw [hlen]; exact hos'))
  · cases l5
theorem ab_in {i : Int32} {n : Nat} (h0 : ¬ i < 0) (hi : i.toNatClampNeg < n) : vp_in i n := fun q => q.elim h0 (Nat.not_le.mpr hi)
theorem ab_ltv {vs : List Value} {k : Nat} {v : Value} (h : vs[k]? = some v) : k < vs.length := (List.getElem?_eq_some_iff.mp h).1
theorem ab_gd {vs : List Value} {k : Nat} {v : Value} (h : vs[k]? = some v) : vs.getD k .null = v := by
  rw [List.getD_eq_getElem?_getD, h]; rfl
theorem sw_iald {r : Nat} {vs : List Value} {i x : Int32} (hd : decode M.2.1 pc = .ok (.iaload, 1)) (hc : h[r]? = some (100, vs)) (h0 : ¬ i < 0) (hi : vs[i.toNatClampNeg]? = some (.int x)) (kk : SW sc M d rc rs (pc + 1) ls (.int x :: st) h P) : SW sc M d rc rs pc ls (.int i :: .ref r :: st) h P := by
  intro p l e R s m args below meth c Q D dA τ A σ0 n0 Cm Sm hX σ H locs cells slots lv hY hl hol hos
  have hG := hX.2.2.2.2.2.2.2.2.2.2.1
  have kw := kk.use hX hY hl hol (ab_okS_cons trivial (ab_okS_tl (ab_okS_tl hos)))
  exact va_iald (f := fun j => ab_i (vs.getD j .null)) hX.1 hX.2.2.1 hG.1 hY.1 r 0 (ab_w_at hc) rfl (ab_in h0 (ab_ltv hi)) hd (by
    show W p l e R s m args below meth c H locs cells slots Q (F0 m (pc + 1) lv (.int (ab_i (vs.getD i.toNatClampNeg .null)) :: st.map (ab_v σ τ)))
    rw [ab_gd hi]; exact kw)
theorem sw_bald {r : Nat} {vs : List Value} {i x : Int32} (hd : decode M.2.1 pc = .ok (.baload, 1)) (hc : h[r]? = some (101, vs)) (h0 : ¬ i < 0) (hi : vs[i.toNatClampNeg]? = some (.int x)) (kk : SW sc M d rc rs (pc + 1) ls (.int x :: st) h P) : SW sc M d rc rs pc ls (.int i :: .ref r :: st) h P := by
  intro p l e R s m args below meth c Q D dA τ A σ0 n0 Cm Sm hX σ H locs cells slots lv hY hl hol hos
  have hG := hX.2.2.2.2.2.2.2.2.2.2.1
  have kw := kk.use hX hY hl hol (ab_okS_cons trivial (ab_okS_tl (ab_okS_tl hos)))
  exact va_bald (f := fun j => ab_i (vs.getD j .null)) hX.1 hX.2.2.1 hG.1 hY.1 r 1 (ab_w_at hc) rfl (ab_in h0 (ab_ltv hi)) hd (by
    show W p l e R s m args below meth c H locs cells slots Q (F0 m (pc + 1) lv (.int (ab_i (vs.getD i.toNatClampNeg .null)) :: st.map (ab_v σ τ)))
    rw [ab_gd hi]; exact kw)
theorem sw_lald {r : Nat} {vs : List Value} {i : Int32} {x : Int64} (hd : decode M.2.1 pc = .ok (.laload, 1)) (hc : h[r]? = some (102, vs)) (h0 : ¬ i < 0) (hi : vs[i.toNatClampNeg]? = some (.long x)) (kk : SW sc M d rc rs (pc + 1) ls (.long x :: st) h P) : SW sc M d rc rs pc ls (.int i :: .ref r :: st) h P := by
  intro p l e R s m args below meth c Q D dA τ A σ0 n0 Cm Sm hX σ H locs cells slots lv hY hl hol hos
  have hG := hX.2.2.2.2.2.2.2.2.2.2.1
  have kw := kk.use hX hY hl hol (ab_okS_cons trivial (ab_okS_tl (ab_okS_tl hos)))
  exact va_lald (f := fun j => ab_j (vs.getD j .null)) hX.1 hX.2.2.1 hG.1 hY.1 r 2 (ab_w_at hc) rfl (ab_in h0 (ab_ltv hi)) hd (by
    show W p l e R s m args below meth c H locs cells slots Q (F0 m (pc + 1) lv (.long (ab_j (vs.getD i.toNatClampNeg .null)) :: st.map (ab_v σ τ)))
    rw [ab_gd hi]; exact kw)
theorem sw_dald {r : Nat} {vs : List Value} {i : Int32} {x : UInt64} (hd : decode M.2.1 pc = .ok (.daload, 1)) (hc : h[r]? = some (103, vs)) (h0 : ¬ i < 0) (hi : vs[i.toNatClampNeg]? = some (.double x)) (kk : SW sc M d rc rs (pc + 1) ls (.double x :: st) h P) : SW sc M d rc rs pc ls (.int i :: .ref r :: st) h P := by
  intro p l e R s m args below meth c Q D dA τ A σ0 n0 Cm Sm hX σ H locs cells slots lv hY hl hol hos
  have hG := hX.2.2.2.2.2.2.2.2.2.2.1
  have kw := kk.use hX hY hl hol (ab_okS_cons trivial (ab_okS_tl (ab_okS_tl hos)))
  exact va_dald (f := fun j => ab_d (vs.getD j .null)) hX.1 hX.2.2.1 hG.1 hY.1 r 3 (ab_w_at hc) rfl (ab_in h0 (ab_ltv hi)) hd (by
    show W p l e R s m args below meth c H locs cells slots Q (F0 m (pc + 1) lv (.double (ab_d (vs.getD i.toNatClampNeg .null)) :: st.map (ab_v σ τ)))
    rw [ab_gd hi]; exact kw)
/-- a row of a grid -/
theorem sw_aald {r a : Nat} {vs : List Value} {i : Int32} (hd : decode M.2.1 pc = .ok (.aaload, 1)) (hc : h[r]? = some (104, vs)) (h0 : ¬ i < 0) (hi : vs[i.toNatClampNeg]? = some (.ref a)) (kk : SW sc M d rc rs (pc + 1) ls (.ref a :: st) h P) : SW sc M d rc rs pc ls (.int i :: .ref r :: st) h P := by
  intro p l e R s m args below meth c Q D dA τ A σ0 n0 Cm Sm hX σ H locs cells slots lv hY hl hol hos
  have hG := hX.2.2.2.2.2.2.2.2.2.2.1
  have kw := kk.use hX hY hl hol (ab_okS_cons (ab_okS_at (ab_wf_at hY.2.2.2.1 hc) hi) (ab_okS_tl (ab_okS_tl hos)))
  have hcell : H[σ r]? = some (arrV (dA 4) vs.length (fun j => va_rf (ab_q σ (vs.getD j .null)))) := hY.1 r _ (ab_w_at hc)
  have hlt := ab_ltv hi
  exact W.aald (v := .ref (σ a)) (ty := .array .int) hX.1 hX.2.2.1 hcell ((hG.1.2 4 _ rfl).1 vs.length _) rfl (fun q => by cases q) (by rw [arrV_size]; exact ab_in h0 hlt) (by
    rw [arrV_read _ _ hlt, ab_gd hi]; rfl) rfl rfl hd kw
theorem ab_set_i {vs : List Value} {k : Nat} (hk : k < vs.length) {x : Int32} : (fun j => ab_i ((vs.set k (.int x)).getD j .null)) = upd (fun j => ab_i (vs.getD j .null)) k x := by
  funext j
  unfold upd
  by_cases hj : j = k
  · subst hj
    rw [if_pos rfl, List.getD_eq_getElem?_getD, List.getElem?_set_self hk]; rfl
  · rw [if_neg hj, List.getD_eq_getElem?_getD, List.getElem?_set_ne (Ne.symm hj)]
    show _ = ab_i (vs.getD j .null)
    rw [List.getD_eq_getElem?_getD]
theorem sw_iast {r : Nat} {vs : List Value} {i x : Int32} (hd : decode M.2.1 pc = .ok (.iastore, 1)) (hc : h[r]? = some (100, vs)) (h0 : ¬ i < 0) (hi : i.toNatClampNeg < vs.length) (kk : SW sc M d rc rs (pc + 1) ls st (h.set r (100, vs.set i.toNatClampNeg (.int x))) P) : SW sc M d rc rs pc ls (.int x :: .int i :: .ref r :: st) h P := by
  intro p l e R s m args below meth c Q D dA τ A σ0 n0 Cm Sm hX σ H locs cells slots lv hY hl hol hos
  have hG := hX.2.2.2.2.2.2.2.2.2.2.1
  have hok := ab_okS_set (k := i.toNatClampNeg) (v := .int x) (ab_wf_at hY.2.2.2.1 hc) trivial
  have hlen : (h.set r (100, vs.set i.toNatClampNeg (.int x))).length = h.length := List.length_set
  exact va_iast hX.1 hX.2.2.1 hG.1 hY.1 hY.2.1 hY.2.2.1 r 0 (ab_w_at hc) rfl (ab_in h0 hi) hd (fun H1 locs1 hP hD hS => kk.use hX (hY.upd hok (by rw [ab_e_i, ab_set_i hi, List.length_set]) hP hD hS) hl (by rw [hlen]; exact hol) (by rw [hlen]; exact ab_okS_tl (ab_okS_tl (ab_okS_tl hos))))
theorem sw_bast {r : Nat} {vs : List Value} {i x : Int32} (hd : decode M.2.1 pc = .ok (.bastore, 1)) (hc : h[r]? = some (101, vs)) (h0 : ¬ i < 0) (hi : i.toNatClampNeg < vs.length) (kk : SW sc M d rc rs (pc + 1) ls st (h.set r (101, vs.set i.toNatClampNeg (.int x.toInt8.toInt32))) P) : SW sc M d rc rs pc ls (.int x :: .int i :: .ref r :: st) h P := by
  intro p l e R s m args below meth c Q D dA τ A σ0 n0 Cm Sm hX σ H locs cells slots lv hY hl hol hos
  have hG := hX.2.2.2.2.2.2.2.2.2.2.1
  have hok := ab_okS_set (k := i.toNatClampNeg) (v := .int x.toInt8.toInt32) (ab_wf_at hY.2.2.2.1 hc) trivial
  have hlen : (h.set r (101, vs.set i.toNatClampNeg (.int x.toInt8.toInt32))).length = h.length := List.length_set
  exact va_bast hX.1 hX.2.2.1 hG.1 hY.1 hY.2.1 hY.2.2.1 r 1 (ab_w_at hc) rfl (ab_in h0 hi) hd (fun H1 locs1 hP hD hS => kk.use hX (hY.upd hok (by rw [ab_e_b, ab_set_i hi, List.length_set, vp_nar_byte]) hP hD hS) hl (by rw [hlen]; exact hol) (by rw [hlen]; exact ab_okS_tl (ab_okS_tl (ab_okS_tl hos))))
theorem ab_set_j {vs : List Value} {k : Nat} (hk : k < vs.length) {x : Int64} : (fun j => ab_j ((vs.set k (.long x)).getD j .null)) = vp_updL (fun j => ab_j (vs.getD j .null)) k x := by
  funext j
  unfold vp_updL
  by_cases hj : j = k
  · subst hj
    rw [if_pos rfl, List.getD_eq_getElem?_getD, List.getElem?_set_self hk]; rfl
  · rw [if_neg hj, List.getD_eq_getElem?_getD, List.getElem?_set_ne (Ne.symm hj)]
    show _ = ab_j (vs.getD j .null)
    rw [List.getD_eq_getElem?_getD]
theorem sw_last {r : Nat} {vs : List Value} {i : Int32} {x : Int64} (hd : decode M.2.1 pc = .ok (.lastore, 1)) (hc : h[r]? = some (102, vs)) (h0 : ¬ i < 0) (hi : i.toNatClampNeg < vs.length) (kk : SW sc M d rc rs (pc + 1) ls st (h.set r (102, vs.set i.toNatClampNeg (.long x))) P) : SW sc M d rc rs pc ls (.long x :: .int i :: .ref r :: st) h P := by
  intro p l e R s m args below meth c Q D dA τ A σ0 n0 Cm Sm hX σ H locs cells slots lv hY hl hol hos
  have hG := hX.2.2.2.2.2.2.2.2.2.2.1
  have hok := ab_okS_set (k := i.toNatClampNeg) (v := .long x) (ab_wf_at hY.2.2.2.1 hc) trivial
  have hlen : (h.set r (102, vs.set i.toNatClampNeg (.long x))).length = h.length := List.length_set
  exact va_last hX.1 hX.2.2.1 hG.1 hY.1 hY.2.1 hY.2.2.1 r 2 (ab_w_at hc) rfl (ab_in h0 hi) hd (fun H1 locs1 hP hD hS => kk.use hX (hY.upd hok (by rw [ab_e_l, ab_set_j hi, List.length_set]) hP hD hS) hl (by rw [hlen]; exact hol) (by rw [hlen]; exact ab_okS_tl (ab_okS_tl (ab_okS_tl hos))))
theorem ab_set_d {vs : List Value} {k : Nat} (hk : k < vs.length) {x : UInt64} : (fun j => ab_d ((vs.set k (.double x)).getD j .null)) = vf_upd (fun j => ab_d (vs.getD j .null)) k x := by
  funext j
  unfold vf_upd
  by_cases hj : j = k
  · subst hj
    rw [if_pos rfl, List.getD_eq_getElem?_getD, List.getElem?_set_self hk]; rfl
  · rw [if_neg hj, List.getD_eq_getElem?_getD, List.getElem?_set_ne (Ne.symm hj)]
    show _ = ab_d (vs.getD j .null)
    rw [List.getD_eq_getElem?_getD]
theorem sw_dast {r : Nat} {vs : List Value} {i : Int32} {x : UInt64} (hd : decode M.2.1 pc = .ok (.dastore, 1)) (hc : h[r]? = some (103, vs)) (h0 : ¬ i < 0) (hi : i.toNatClampNeg < vs.length) (kk : SW sc M d rc rs (pc + 1) ls st (h.set r (103, vs.set i.toNatClampNeg (.double x))) P) : SW sc M d rc rs pc ls (.double x :: .int i :: .ref r :: st) h P := by
  intro p l e R s m args below meth c Q D dA τ A σ0 n0 Cm Sm hX σ H locs cells slots lv hY hl hol hos
  have hG := hX.2.2.2.2.2.2.2.2.2.2.1
  have hok := ab_okS_set (k := i.toNatClampNeg) (v := .double x) (ab_wf_at hY.2.2.2.1 hc) trivial
  have hlen : (h.set r (103, vs.set i.toNatClampNeg (.double x))).length = h.length := List.length_set
  exact va_dast hX.1 hX.2.2.1 hG.1 hY.1 hY.2.1 hY.2.2.1 r 3 (ab_w_at hc) rfl (ab_in h0 hi) hd (fun H1 locs1 hP hD hS => kk.use hX (hY.upd hok (by rw [ab_e_d, ab_set_d hi, List.length_set]) hP hD hS) hl (by rw [hlen]; exact hol) (by rw [hlen]; exact ab_okS_tl (ab_okS_tl (ab_okS_tl hos))))
theorem sw_alen {r : Nat} {vs : List Value} (hd : decode M.2.1 pc = .ok (.arraylength, 1)) (hc : h[r]? = some (100, vs)) (kk : SW sc M d rc rs (pc + 1) ls (.int (Int32.ofNat vs.length) :: st) h P) : SW sc M d rc rs pc ls (.ref r :: st) h P := by
  intro p l e R s m args below meth c Q D dA τ A σ0 n0 Cm Sm hX σ H locs cells slots lv hY hl hol hos
  have hG := hX.2.2.2.2.2.2.2.2.2.2.1
  exact va_alen hX.1 hX.2.2.1 hG.1 hY.1 r 0 (ab_w_at hc) rfl rfl hd (kk.use hX hY hl hol (ab_okS_cons trivial (ab_okS_tl hos)))
/-- the script -/
theorem sw_sld {xs : List Int32} {i x : Int32} (hd : decode M.2.1 pc = .ok (.iaload, 1)) (h0 : ¬ i < 0) (hi : xs[i.toNatClampNeg]? = some x) (kk : SW (some xs) M d rc rs (pc + 1) ls (.int x :: st) h P) : SW (some xs) M d rc rs pc ls (.int i :: .retAddr 100 :: st) h P := by
  intro p l e R s m args below meth c Q D dA τ A σ0 n0 Cm Sm hX σ H locs cells slots lv hY hl hol hos
  obtain ⟨-, -, -, -, -, -, -, -, -, -, b, e1, hXX, e2, e3⟩ := hX.2.2.2.2.2.2.2.2.2.2.1
  have kw := kk.use hX hY hl hol (ab_okS_cons trivial (ab_okS_tl (ab_okS_tl hos)))
  have e4 : ab_v σ τ (.retAddr 100) = .ref b := e1
  rw [List.map_cons, List.map_cons, e4]
  have hx : xs.getD i.toNatClampNeg 0 = x := by rw [List.getD_eq_getElem?_getD, hi]; rfl
  exact va_sld hX.1 hX.2.2.1 hXX e2 e3 hY.2.2.1 (ab_in h0 (List.getElem?_eq_some_iff.mp hi).1) hd (by rw [hx]; exact kw)
theorem sw_slen {xs : List Int32} (hd : decode M.2.1 pc = .ok (.arraylength, 1)) (kk : SW (some xs) M d rc rs (pc + 1) ls (.int (Int32.ofNat xs.length) :: st) h P) : SW (some xs) M d rc rs pc ls (.retAddr 100 :: st) h P := by
  intro p l e R s m args below meth c Q D dA τ A σ0 n0 Cm Sm hX σ H locs cells slots lv hY hl hol hos
  obtain ⟨-, -, -, -, -, -, -, -, -, -, b, e1, hXX, e2, e3⟩ := hX.2.2.2.2.2.2.2.2.2.2.1
  have kw := kk.use hX hY hl hol (ab_okS_cons trivial (ab_okS_tl hos))
  have e4 : ab_v σ τ (.retAddr 100) = .ref b := e1
  rw [List.map_cons, e4]
  exact va_slen hX.1 hX.2.2.1 hXX e2 e3 hY.2.2.1 hd kw
/-! what is made -/
theorem ab_RA {U : State} {cA cB : ClassId} {ty : FieldType} (hp : ∀ C, ty ≠ .object C) (h1 : va_RA U cA ty) (h2 : va_RA U cB ty) : cA = cB := by
  cases ty with
  | object C => exact absurd rfl (hp C)
  | _ => exact Option.some.inj (h1.symm.trans h2)
theorem ab_tyA {D : va_G} {dA : Nat → ClassId} {U : State} (hK : va_K D ab_cl (ab_tys dA) U) {cA : ClassId} {ty : FieldType} (hK2 : va_K D ab_cl (ab_tys dA ++ [(cA, ty)]) U) {k : Nat} (hk : (ab_tys dA)[k]? = some (dA k, ty)) (hp : ∀ C, ty ≠ .object C) : cA = dA k :=
  ab_RA hp (hK2.2 5 (cA, ty) rfl).2 (hK.2 k (dA k, ty) hk).2
theorem ab_Y.grow {s : State} {D : va_G} {dA : Nat → ClassId} {τ : Nat → Value} {A : Nat → Prop} {σ0 σ : Nat → Nat} {n0 Cm Sm cells slots mc ms q : Nat} {H H1 : Heap} {locs locs1 : List Loc} (hY : ab_Y s D dA τ A σ0 n0 Cm Sm (rc + mc) (rs + ms) σ h H locs cells slots) {c : Nat × List Value} (hc : ab_okS h.length c.2) {e : va_E} (he : ab_e dA σ τ c = e)
    (hP : va_P D ab_cl (ab_w dA σ τ h ++ [(q, e)]) H1) (hD : va_D A (ab_w dA σ τ h ++ [(q, e)])) (hS : va_S A s.heap H1 locs1) : ab_Y s D dA τ A σ0 n0 Cm Sm rc rs (va_up σ h.length q) (h ++ [c]) H1 locs1 (cells + mc) (slots + ms) := by
  obtain ⟨y1, y2, y3, y4, y5, y6, y7, y8⟩ := hY
  subst he
  have hx : ab_ext σ (va_up σ h.length q) h.length := ab_ext_up
  have e1 : ab_w dA (va_up σ h.length q) τ (h ++ [c]) = ab_w dA σ τ h ++ [(q, ab_e dA σ τ c)] := by
    rw [ab_w_app, ab_w_ext hx y4, ab_e_ext hx hc]
    have : va_up σ h.length q h.length = q := if_pos rfl
    rw [this]
  exact ⟨by rw [e1]; exact hP, by rw [e1]; exact hD, hS, ab_wf_app y4 (ab_okS_mono (Nat.le_succ _) hc), ab_ext_tr y5 hx y6, by rw [List.length_append]; omega, by omega, by omega⟩
theorem ab_newI {N : Nat} {v : Value} (hv : ab_i v = 0) : (fun j => ab_i ((List.replicate N v).getD j .null)) = fun _ => 0 := by
  funext j
  rw [List.getD_eq_getElem?_getD, List.getElem?_replicate]
  split
  · exact hv
  · rfl
theorem ab_newJ {N : Nat} {v : Value} (hv : ab_j v = 0) : (fun j => ab_j ((List.replicate N v).getD j .null)) = fun _ => 0 := by
  funext j
  rw [List.getD_eq_getElem?_getD, List.getElem?_replicate]
  split
  · exact hv
  · rfl
theorem ab_newD {N : Nat} {v : Value} (hv : ab_d v = 0) : (fun j => ab_d ((List.replicate N v).getD j .null)) = fun _ => 0 := by
  funext j
  rw [List.getD_eq_getElem?_getD, List.getElem?_replicate]
  split
  · exact hv
  · rfl
theorem ab_okS_rep {n N : Nat} {v : Value} (hv : ab_ok n v) : ab_okS n (List.replicate N v) := fun w hw => by
  rw [List.eq_of_mem_replicate hw]; exact hv
theorem sw_newI {n : Int32} {N : Nat} (hd : decode M.2.1 pc = .ok (.newarray .int, 2)) (hw : Cond.arrayClass .int ∈ ab_big) (h0 : ¬ n < 0) (hN : n.toNatClampNeg = N) (hb : N * 4 ≤ 536870912) (kk : SW sc M d rc rs (pc + 2) ls (.ref h.length :: st) (h ++ [(100, List.replicate N (.int 0))]) P) : SW sc M d (rc + 1) (rs + N) pc ls (.int n :: st) h P := by
  intro p l e R s m args below meth c Q D dA τ A σ0 n0 Cm Sm hX σ H locs cells slots lv hY hl hol hos
  have hts := hX.2.2.2.2.2.2.2.2.2.1
  have hG := hX.2.2.2.2.2.2.2.2.2.2.1
  obtain ⟨-, -, -, -, -, -, -, -, -, -, -, x12, x13, x14, x15, x16, -, -⟩ := id hX
  have y7 := hY.2.2.2.2.2.2.1
  have y8 := hY.2.2.2.2.2.2.2
  refine va_newa (atype := .int) (a0 := (N, .inl (fun _ => 0))) (N' := N) hX.1 hX.2.2.1 (hts _ hw) rfl hG.1 hY.1 hY.2.1 hY.2.2.1 x12 (fun cA => rfl) h0 hN hb (by omega) (by omega) hd (fun q cA H1 hK2 hP hD hS => ?_)
  have hcA := ab_tyA (k := 0) hG.1 hK2 rfl (fun _ z => by cases z)
  subst hcA
  have hY' := hY.grow (c := (100, List.replicate N (.int 0))) (ab_okS_rep trivial) (by rw [ab_e_i, ab_newI rfl, List.length_replicate]) hP hD hS
  have hx : ab_ext σ (va_up σ h.length q) h.length := ab_ext_up
  have kw := kk.use hX hY' (by rw [ab_l_ext hx hol]; exact hl) (ab_okL_mono (by rw [List.length_append]; omega) hol) (ab_okS_cons (by show h.length < _; rw [List.length_append]; exact Nat.lt_succ_self _) (ab_okS_mono (by rw [List.length_append]; omega) (ab_okS_tl hos)))
  rw [List.map_cons, ab_map_ext hx (ab_okS_tl hos)] at kw
  have e5 : ab_v (va_up σ h.length q) τ (.ref h.length) = .ref q := congrArg Value.ref (if_pos rfl)
  rw [e5] at kw
  exact kw
theorem sw_newB {n : Int32} {N : Nat} (hd : decode M.2.1 pc = .ok (.newarray .byte, 2)) (hw : Cond.arrayClass .byte ∈ ab_big) (h0 : ¬ n < 0) (hN : n.toNatClampNeg = N) (hb : N * 1 ≤ 536870912) (kk : SW sc M d rc rs (pc + 2) ls (.ref h.length :: st) (h ++ [(101, List.replicate N (.int 0))]) P) : SW sc M d (rc + 1) (rs + N) pc ls (.int n :: st) h P := by
  intro p l e R s m args below meth c Q D dA τ A σ0 n0 Cm Sm hX σ H locs cells slots lv hY hl hol hos
  have hts := hX.2.2.2.2.2.2.2.2.2.1
  have hG := hX.2.2.2.2.2.2.2.2.2.2.1
  obtain ⟨-, -, -, -, -, -, -, -, -, -, -, x12, x13, x14, x15, x16, -, -⟩ := id hX
  have y7 := hY.2.2.2.2.2.2.1
  have y8 := hY.2.2.2.2.2.2.2
  refine va_newa (atype := .byte) (a0 := (N, .inl (fun _ => 0))) (N' := N) hX.1 hX.2.2.1 (hts _ hw) rfl hG.1 hY.1 hY.2.1 hY.2.2.1 x12 (fun cA => rfl) h0 hN hb (by omega) (by omega) hd (fun q cA H1 hK2 hP hD hS => ?_)
  have hcA := ab_tyA (k := 1) hG.1 hK2 rfl (fun _ z => by cases z)
  subst hcA
  have hY' := hY.grow (c := (101, List.replicate N (.int 0))) (ab_okS_rep trivial) (by rw [ab_e_b, ab_newI rfl, List.length_replicate]) hP hD hS
  have hx : ab_ext σ (va_up σ h.length q) h.length := ab_ext_up
  have kw := kk.use hX hY' (by rw [ab_l_ext hx hol]; exact hl) (ab_okL_mono (by rw [List.length_append]; omega) hol) (ab_okS_cons (by show h.length < _; rw [List.length_append]; exact Nat.lt_succ_self _) (ab_okS_mono (by rw [List.length_append]; omega) (ab_okS_tl hos)))
  rw [List.map_cons, ab_map_ext hx (ab_okS_tl hos)] at kw
  have e5 : ab_v (va_up σ h.length q) τ (.ref h.length) = .ref q := congrArg Value.ref (if_pos rfl)
  rw [e5] at kw
  exact kw
theorem sw_newL {n : Int32} {N : Nat} (hd : decode M.2.1 pc = .ok (.newarray .long, 2)) (hw : Cond.arrayClass .long ∈ ab_big) (h0 : ¬ n < 0) (hN : n.toNatClampNeg = N) (hb : N * 8 ≤ 536870912) (kk : SW sc M d rc rs (pc + 2) ls (.ref h.length :: st) (h ++ [(102, List.replicate N (.long 0))]) P) : SW sc M d (rc + 1) (rs + N) pc ls (.int n :: st) h P := by
  intro p l e R s m args below meth c Q D dA τ A σ0 n0 Cm Sm hX σ H locs cells slots lv hY hl hol hos
  have hts := hX.2.2.2.2.2.2.2.2.2.1
  have hG := hX.2.2.2.2.2.2.2.2.2.2.1
  obtain ⟨-, -, -, -, -, -, -, -, -, -, -, x12, x13, x14, x15, x16, -, -⟩ := id hX
  have y7 := hY.2.2.2.2.2.2.1
  have y8 := hY.2.2.2.2.2.2.2
  refine va_newa (atype := .long) (a0 := (N, .inr (.inl (fun _ => 0)))) (N' := N) hX.1 hX.2.2.1 (hts _ hw) rfl hG.1 hY.1 hY.2.1 hY.2.2.1 x12 (fun cA => rfl) h0 hN hb (by omega) (by omega) hd (fun q cA H1 hK2 hP hD hS => ?_)
  have hcA := ab_tyA (k := 2) hG.1 hK2 rfl (fun _ z => by cases z)
  subst hcA
  have hY' := hY.grow (c := (102, List.replicate N (.long 0))) (ab_okS_rep trivial) (by rw [ab_e_l, ab_newJ rfl, List.length_replicate]) hP hD hS
  have hx : ab_ext σ (va_up σ h.length q) h.length := ab_ext_up
  have kw := kk.use hX hY' (by rw [ab_l_ext hx hol]; exact hl) (ab_okL_mono (by rw [List.length_append]; omega) hol) (ab_okS_cons (by show h.length < _; rw [List.length_append]; exact Nat.lt_succ_self _) (ab_okS_mono (by rw [List.length_append]; omega) (ab_okS_tl hos)))
  rw [List.map_cons, ab_map_ext hx (ab_okS_tl hos)] at kw
  have e5 : ab_v (va_up σ h.length q) τ (.ref h.length) = .ref q := congrArg Value.ref (if_pos rfl)
  rw [e5] at kw
  exact kw
theorem sw_newD {n : Int32} {N : Nat} (hd : decode M.2.1 pc = .ok (.newarray .double, 2)) (hw : Cond.arrayClass .double ∈ ab_big) (h0 : ¬ n < 0) (hN : n.toNatClampNeg = N) (hb : N * 8 ≤ 536870912) (kk : SW sc M d rc rs (pc + 2) ls (.ref h.length :: st) (h ++ [(103, List.replicate N (.double 0))]) P) : SW sc M d (rc + 1) (rs + N) pc ls (.int n :: st) h P := by
  intro p l e R s m args below meth c Q D dA τ A σ0 n0 Cm Sm hX σ H locs cells slots lv hY hl hol hos
  have hts := hX.2.2.2.2.2.2.2.2.2.1
  have hG := hX.2.2.2.2.2.2.2.2.2.2.1
  obtain ⟨-, -, -, -, -, -, -, -, -, -, -, x12, x13, x14, x15, x16, -, -⟩ := id hX
  have y7 := hY.2.2.2.2.2.2.1
  have y8 := hY.2.2.2.2.2.2.2
  refine va_newa (atype := .double) (a0 := (N, .inr (.inr (.inr (.inl (fun _ => 0)))))) (N' := N) hX.1 hX.2.2.1 (hts _ hw) rfl hG.1 hY.1 hY.2.1 hY.2.2.1 x12 (fun cA => rfl) h0 hN hb (by omega) (by omega) hd (fun q cA H1 hK2 hP hD hS => ?_)
  have hcA := ab_tyA (k := 3) hG.1 hK2 rfl (fun _ z => by cases z)
  subst hcA
  have hY' := hY.grow (c := (103, List.replicate N (.double 0))) (ab_okS_rep trivial) (by rw [ab_e_d, ab_newD rfl, List.length_replicate]) hP hD hS
  have hx : ab_ext σ (va_up σ h.length q) h.length := ab_ext_up
  have kw := kk.use hX hY' (by rw [ab_l_ext hx hol]; exact hl) (ab_okL_mono (by rw [List.length_append]; omega) hol) (ab_okS_cons (by show h.length < _; rw [List.length_append]; exact Nat.lt_succ_self _) (ab_okS_mono (by rw [List.length_append]; omega) (ab_okS_tl hos)))
  rw [List.map_cons, ab_map_ext hx (ab_okS_tl hos)] at kw
  have e5 : ab_v (va_up σ h.length q) τ (.ref h.length) = .ref q := congrArg Value.ref (if_pos rfl)
  rw [e5] at kw
  exact kw
theorem sw_new {idx ci N : Nat} {fs : List Value} (hd : decode M.2.1 pc = .ok (.new idx, 3)) (hL : ab_LN M.1.cls idx ci N fs) (kk : SW sc M d rc rs (pc + 3) ls (.ref h.length :: st) (h ++ [(ci, fs)]) P) : SW sc M d (rc + 1) (rs + N) pc ls st h P := by
  intro p l e R s m args below meth c Q D dA τ A σ0 n0 Cm Sm hX σ H locs cells slots lv hY hl hol hos
  obtain ⟨C, T, ty, l1, l2, l3, l4, l5, l6, l7, l8, l9⟩ := hL
  have hts := hX.2.2.2.2.2.2.2.2.2.1
  have hG := hX.2.2.2.2.2.2.2.2.2.2.1
  have hown := hX.2.2.2.2.2.2.1
  obtain ⟨-, -, -, -, -, -, -, -, -, -, -, x12, x13, x14, x15, x16, -, -⟩ := id hX
  have y7 := hY.2.2.2.2.2.2.1
  have y8 := hY.2.2.2.2.2.2.2
  refine va_new (fs := fs.map (ab_v σ τ)) hX.1 hX.2.2.1 hts l6 ty l7 hown (hts _ l3) (hts _ l4) (hts _ l5) hG.1 hY.1 hY.2.1 hY.2.2.1 x12 l1 (l8 σ τ) (by omega) (by omega) hd (fun q H1 hP hD hS => ?_)
  have hY' := hY.grow (c := (ci, fs)) (l9 _) (by unfold ab_e; rw [if_pos l2]) hP hD hS
  have hx : ab_ext σ (va_up σ h.length q) h.length := ab_ext_up
  have kw := kk.use hX hY' (by rw [ab_l_ext hx hol]; exact hl) (ab_okL_mono (by rw [List.length_append]; omega) hol) (ab_okS_cons (by show h.length < _; rw [List.length_append]; exact Nat.lt_succ_self _) (ab_okS_mono (by rw [List.length_append]; omega) hos))
  rw [List.map_cons, ab_map_ext hx hos] at kw
  have e5 : ab_v (va_up σ h.length q) τ (.ref h.length) = .ref q := congrArg Value.ref (if_pos rfl)
  rw [e5] at kw
  exact kw
def ab_LO (own : String) (idx : Nat) : Prop := Cond.methodLink own idx objectInit ∈ ab_big ∧ Cond.instanceMethod objectInit ∈ ab_big ∧ Cond.code objectInit ⟨#[0xb1]⟩ 1 none ∈ ab_big
theorem sw_objInit {idx r : Nat} (hd : decode M.2.1 pc = .ok (.invokespecial idx, 3)) (hL : ab_LO M.1.cls idx) (hc : ((st.map fun v => v.category)).sum ≤ 8) (hr : ∀ σ τ, (st.map (ab_v σ τ)).map (fun v => v.category) = st.map fun v => v.category) (kk : SW sc M d rc rs (pc + 3) ls st h P) : SW sc M d rc rs pc ls (.ref r :: st) h P := by
  intro p l e R s m args below meth c Q D dA τ A σ0 n0 Cm Sm hX σ H locs cells slots lv hY hl hol hos
  have hts := hX.2.2.2.2.2.2.2.2.2.1
  have hown := hX.2.2.2.2.2.2.1
  obtain ⟨-, -, -, x4, -, -, -, -, -, -, -, x12, x13, x14, x15, x16, -, -⟩ := id hX
  refine W.objInit hX.1 hX.2.2.1 hown (hts _ hL.1) (hts _ hL.2.1) (hts _ hL.2.2) rfl (by rw [x4]; exact hl.1) rfl hd (by omega) (by
    rw [show (F0 m pc lv ((Value.ref r :: st).map (ab_v σ τ))).monitorRoom = 0 from rfl, hr σ τ]; omega) ?_
  exact kk.use hX hY hl hol (ab_okS_tl hos)
end AB2
