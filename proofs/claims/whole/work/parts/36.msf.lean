/-! methods of classes whose name has rows of its own (kit/laws/EXCEPTIONS turned: the name-wise form) -/
theorem ab_ofWF {l : Launch} {y : MethodName} {ws ws' : List Cond} {rm : Room} {Pc : Array Value → State → Prop} {Qc : Array Value → State → Outcome → State → Prop} {XC : String → State → State → Prop} {mc ms : Nat} {free : Addr → Prop} {cc : ByteArray} {maxL : Nat} {ret : Option FieldType}
    (hy : plainFor y = true) (hw : ws = Cond.code y cc maxL ret :: ws')
    (body : ∀ p e s m args below meth c s₁, BodyLoose p l y (headSpec ws rm) cc maxL ret e s m args below meth c s₁ → c.maxLocals = maxL → (∀ x ∈ c.exceptionTable.toList, False) → Pc args s →
      W p l e (headSpec ws rm).room s m args below meth c s.heap [] 0 0 (vx_MQ below Qc XC args s mc ms free) (entryFrame m args maxL)) : vx_Met l y ws rm Pc Qc XC mc ms free := by
  refine MetFree.of_bodySF (code := cc) (maxLocals := maxL) (ret := ret) hy ?_ ?_
  · intro args s m h hn
    obtain ⟨meth, c, h1, h2, h3, h4, h5, h6, -, -⟩ := Cond.code_spec hn (atoms_spec (ws := ws) h _ (by rw [hw]; exact List.mem_cons_self))
    exact ⟨meth, c, h1, h2, h3, h4, h5, h6⟩
  · intro p e s m args below meth c s₁ B hml hP _
    have hh0 : s₁.heap = s.heap := by rw [B.state]; rfl
    have ht : ∀ x ∈ c.exceptionTable.toList, False := by
      obtain ⟨meth9, c9, h1, h2, -, -, -, -, h7, -⟩ := Cond.code_spec B.named (atoms_spec (ws := ws) B.pre _ (by rw [hw]; exact List.mem_cons_self))
      cases Option.some.inj (h1.symm.trans B.method)
      cases Option.some.inj (h2.symm.trans (Stand.of_body B).code)
      intro x hx
      rw [Array.isEmpty_iff.mp h7] at hx
      cases hx
    obtain ⟨t, a1, o, b1, b2, b3⟩ := body p e s m args below meth c s₁ B hml ht hP s₁ hh0 (Stand.of_body B)
    exact ⟨t, o, a1, b1, b2, b3⟩
theorem MS.ofF {M : ab_M} {d mc ms : Nat} {args : List Value} {h : ab_H} {P : ab_O → ab_H → Prop} (hy : plainFor M.1 = true) (hh : M.2.2.2.2 = []) (hn : args.length ≤ M.2.2.1) (hcw : ab_cw M ∈ ab_big) (body : SW none M d mc ms 0 (args.map some ++ List.replicate (M.2.2.1 - args.length) none) [] h P) : MS M d mc ms args h P := by
  intro l hl D dA τ σ sz hw ho hc
  have main : ∀ (p : Program) (e : Env) (s : State) (m : MethodId) (args' : Array Value) (below : List Frame) (meth : Method) (c : Code) (s₁ : State), BodyLoose p l M.1 (headSpec (ab_ws M) (ab_rm d mc ms)) M.2.1 M.2.2.1 M.2.2.2.1 e s m args' below meth c s₁ → c.maxLocals = M.2.2.1 → c.exceptionTable.toList = tableOf M.2.2.2.2 → va_Pc (args.map (ab_v σ τ)) (ab_B D dA τ σ h sz) args' s →
      W p l e (headSpec (ab_ws M) (ab_rm d mc ms)).room s m args' below meth c s.heap [] 0 0 (vx_MQ below (ab_Qc D dA τ σ h sz P) (ab_Qx D dA τ σ h sz P) args' s mc ms (va_A (ab_w dA σ τ h) sz)) (entryFrame m args' M.2.2.1) := by
    intro p e s m args' below meth c s₁ B hml htab hv
    obtain ⟨rfl, hsz, hG, hP, hD⟩ := hv
    subst hsz
    have hts := atoms_spec (ws := ab_ws M) B.pre
    have hown : s.vm.findClass M.1.cls = some m.cls := findClass_of_methodNamed B.named
    have hlocks := B.notSynchronized
    have hD' := hD.self (sz := s.heap.size)
    have hS : va_S (va_A (ab_w dA σ τ h) s.heap.size) s.heap s.heap [] := va_S.rf
    have hlen : (lg_sl (args.map (ab_v σ τ))).length ≤ M.2.2.1 := by
      have : ∀ vs : List Value, (∀ v ∈ vs, v.category = 1) → (lg_sl vs).length = vs.length := by
        intro vs
        induction vs with
        | nil => intro _; rfl
        | cons a l ih =>
          intro h2
          have h1 := h2 a List.mem_cons_self
          show (((if a.category = 2 then [Slot.val a, Slot.second] else [Slot.val a]) : List Slot) ++ lg_sl l).length = l.length + 1
          rw [if_neg (by rw [h1]; decide), List.length_append, ih (fun v hv => h2 v (List.mem_cons_of_mem _ hv))]
          exact Nat.add_comm _ _
      rw [this _ (fun v hv => by obtain ⟨w, hw1, rfl⟩ := List.mem_map.mp hv; exact hc w hw1), List.length_map]; exact hn
    have hl0 := lv_entry (args.map (ab_v σ τ)) hlen
    have hl1 := ab_entry (k := M.2.2.1 - args.length) hc hl0
    rw [lg_entry_eq]
    generalize (lg_sl (args.map (ab_v σ τ)) ++ List.replicate (M.2.2.1 - (lg_sl (args.map (ab_v σ τ))).length) Slot.unset).toArray = lv at hl1 ⊢
    refine body p l e (ab_rm d mc ms) s m _ below meth c _ D dA τ (va_A (ab_w dA σ τ h) s.heap.size) σ h.length mc ms ⟨B.exec, hl, B.bytes, hml, B.returns, htab, hown, (name_of_methodNamed B.named B.method).1, hlocks, fun w hw => hts w (List.mem_cons_of_mem _ hw), hG, fun q hq => Or.inr hq, Nat.le_refl _, Nat.le_refl _, Nat.le_refl _, Nat.le_refl _, ?_, ?_⟩ σ s.heap [] 0 0 lv ⟨hP, hD', hS, hw, ab_ext_rf, Nat.le_refl _, by omega, by omega⟩ hl1 ?_ ab_okS_nil
    · intro v h' σ' H' locs' cells' slots' pc' lv' ins hPv hY hok hd hr
      obtain ⟨y1, y2, y3, y4, y5, y6, y7, y8⟩ := hY
      refine W.widen (k := mc) (n := ms) (by omega) (by omega) (vx_ret ?_)
      have key : ∀ (v' : Option Value) (t : State), v' = v.map (ab_v σ' τ) → t.heap = H' → ab_Qc D dA τ σ h s.heap.size P (args.map (ab_v σ τ)).toArray s (.returned v') t := fun v' t hv' ht => ⟨⟨v, σ', h', by rw [hv'], hPv, hok, y4, y5, y6, by rw [ht]; exact y1, y2⟩, y3.F ht⟩
      rcases hr with ⟨r1, r2, r3⟩ | ⟨ty, x, r1, r2, r3, r4⟩ | ⟨x, r1, r2, r3⟩ | ⟨x, r1, r2, r3⟩ | ⟨x, r1, r2, r3⟩ | ⟨ty, i, r1, r4, r2, r3⟩
      · subst r2; subst r3
        exact W.vret B.exec B.bytes (B.returns.trans r1) (fun t ht hW => key none t rfl ht) y3.2.2 hd
      · subst r2; subst r3
        exact W.zret B.exec B.bytes (B.returns.trans r1) r4 (fun t ht hW => key (some (.int x)) t rfl ht) y3.2.2 hd
      · subst r2; subst r3
        exact W.lret B.exec B.bytes (B.returns.trans r1) (fun t ht hW => key (some (.long x)) t rfl ht) y3.2.2 hd
      · subst r2; subst r3
        exact W.fret B.exec B.bytes (B.returns.trans r1) (fun t ht hW => key (some (.float x)) t rfl ht) y3.2.2 hd
      · subst r2; subst r3
        exact W.dret B.exec B.bytes (B.returns.trans r1) (fun t ht hW => key (some (.double x)) t rfl ht) y3.2.2 hd
      · subst r2; subst r3
        exact W.aret (v := .ref (σ' i)) B.exec B.bytes (B.returns.trans r1) r4 (Or.inr ⟨_, rfl⟩) (fun t ht hW => key (some (.ref (σ' i))) t rfl ht) y3.2.2 hd
    · intro E h' σ' H' locs' cells' slots' pc' lv' rest q ce hPE hY h1 h2 h3 hh
      obtain ⟨y1, y2, y3, y4, y5, y6, y7, y8⟩ := hY
      exact vx_out (fun x hx => by rw [htab, hh] at hx; cases hx) hlocks h1 h2 h3 (fun t ht hW => ⟨⟨E, σ', h', rfl, hPE, y4, y5, y6, by rw [ht]; exact y1, y2⟩, y3.F ht⟩) y3.2.2 (by omega) (by omega)
    · intro v hv
      rcases List.mem_append.mp hv with h1 | h1
      · obtain ⟨w, hw1, hw2⟩ := List.mem_map.mp h1
        cases hw2
        exact ho _ hw1
      · have := List.eq_of_mem_replicate h1
        cases this
  have hws : ab_ws M = .code M.1 M.2.1 M.2.2.1 M.2.2.2.1 :: ab_big := by
    unfold ab_ws ab_cw
    rw [hh]
  refine ab_ofWF (cc := M.2.1) (maxL := M.2.2.1) (ret := M.2.2.2.1) hy hws ?_
  intro p e s m args' below meth c s₁ B hml htab hv
  refine main p e s m args' below meth c s₁ B hml ?_ hv
  rw [hh]
  cases hx : c.exceptionTable.toList with
  | nil => rfl
  | cons x xs => exact absurd (htab x (by rw [hx]; exact List.mem_cons_self)) id
