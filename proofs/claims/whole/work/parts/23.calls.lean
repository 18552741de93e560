/-! arrays of arrays: the word of the tables, moved -/
def ab_over (comp : ClassId) : Class → Bool := fun x => match x.kind with
  | .array component _ => component == comp
  | _ => false
theorem ab_over_bare (vm : Vm) (comp : ClassId) : vm.bare.classes.findIdx? (ab_over comp) = vm.classes.findIdx? (ab_over comp) := by
  simp only [Vm.bare, Array.findIdx?_map]
  rfl
theorem ab_AO_spec {args : Array Value} {first s : State} {o : Option Outcome} {idx : List Nat} {t : FieldType} (h : (Cond.arrayOver (.array t)).holds args first o s idx = true) :
    ∃ comp c k, s.vm.findClass (FieldType.array t).toString = some comp ∧ s.vm.classes.findIdx? (ab_over comp) = some c ∧ s.vm.classes[c]? = some k ∧ k.kind = .array comp (.array t) ∧ s.vm.findClass ("[" ++ (FieldType.array t).toString) = some c := by
  simp only [Cond.holds, Cond.value, beq_iff_eq] at h
  cases hc : s.vm.findClass (FieldType.array t).toString with
  | none => simp [hc] at h
  | some comp =>
    simp only [hc, Option.bind_some, Option.bind_eq_some_iff, Option.map_eq_some_iff] at h
    obtain ⟨c, hi, k, hk, hb⟩ := h
    obtain ⟨hlt, hp, -⟩ := Array.findIdx?_eq_some_iff_getElem.mp hi
    have hkk : s.vm.classes[c] = k := (Array.getElem?_eq_some_iff.mp hk).2
    rw [hkk] at hp
    cases hkind : k.kind with
    | array component ty =>
      rw [hkind] at hb hp
      simp at hb hp
      exact ⟨comp, c, k, rfl, hi, hk, by rw [hkind, hp, hb.1], hb.2⟩
    | _ => rw [hkind] at hb; simp at hb
theorem ab_AO_moved {t : FieldType} {u U : State} (hvm : u.vm.Alike U.vm) (h : (Cond.arrayOver (.array t)).before #[] u = true) : (Cond.arrayOver (.array t)).before #[] U = true := by
  obtain ⟨comp, c, k, h1, h2, h3, h4, h5⟩ := ab_AO_spec h
  obtain ⟨k', hk', he⟩ := hvm.2.2 _ _ h3
  have hi : U.vm.classes.findIdx? (ab_over comp) = some c := by
    rw [← ab_over_bare]
    first | rw [hvm.bare_eq] | rw [← hvm.bare_eq]
    rw [ab_over_bare]
    exact h2
  have hkind : k'.kind = .array comp (.array t) := by rw [he]; exact h4
  have f1 : U.vm.findClass (FieldType.array t).toString = some comp := by rw [hvm.findClass]; exact h1
  have f2 : U.vm.findClass ("[" ++ (FieldType.array t).toString) = some c := by rw [hvm.findClass]; exact h5
  unfold Cond.before Cond.holds
  simp only [Cond.value]
  rw [f1, Option.bind_some]
  refine (congrArg (fun o : Option Nat => (o.bind (fun c => (U.vm.classes[c]?).map fun (k : Class) => match k.kind with | .array _ ty => decide (ty = FieldType.array t) && decide (U.vm.findClass ("[" ++ (FieldType.array t).toString) = some c) | _ => false) == some true)) hi).trans ?_
  simp [hk', hkind, f2]
/-! what a start says, for a callee -/
theorem ab_G.call {sc : Option (List Int32)} {D : va_G} {dA : Nat → ClassId} {τ : Nat → Value} {A A' : Nat → Prop} {s U : State} {H : Heap} {locs : List Loc} (hG : ab_G sc D dA τ A s s.heap) (hS : va_S A s.heap H locs) (hU : U.heap = H) (hW : s.WarmedH U.vm) (hA : ∀ q, A' q → A q) : ab_G none D dA τ A' U U.heap := by
  obtain ⟨g1, g2, g3, ⟨adK, adV, g4, g5⟩, g6, g7, g8, g9, g10, g11, -⟩ := hG
  rw [hU]
  refine ⟨va_K.moved hW.alike g1, fun w hw => ?_, fun own k tx hm => ?_, ⟨adK, adV, ?_, g5⟩, ?_, ?_, ?_, ?_, fun i j h1 h2 h3 h4 h5 => va_Nc.moved hW.alike (g10 i j h1 h2 h3 h4 h5), ab_AO_moved hW.alike g11, trivial⟩
  · have h1 := g2 w hw
    have h2 := (List.mem_filter.mp hw).2
    cases w <;> first | exact va_Nw.warmF hW h1 | exact va_Nw.warmM hW h1 | exact va_Nw.warmD hW h1 | (simp [ab_isN] at h2; done) | exact va_tabs rfl (rfl : (s.setVm U.vm).vm = U.vm) ((Cond.castable_setVm (args := #[]) hW.alike _ _).trans h1)
  · obtain ⟨a, h1, h2⟩ := g3 own k tx hm
    exact ⟨a, h1.warm hW, h2⟩
  · exact ((g4.kept hS.2.1).moved hW.alike).narrow hA
  · exact ((g6.kept hS.2.1).moved hW.alike).narrow hA
  · exact ((g7.kept hS.2.1).moved hW.alike).narrow hA
  · exact ((g8.kept hS.2.1).moved hW.alike).narrow hA
  · exact ⟨((g9.1.kept hS.2.1).moved hW.alike).narrow hA, g9.2⟩
def ab_cw (M : ab_M) : Cond := match M.2.2.2.2 with
  | [] => .code M.1 M.2.1 M.2.2.1 M.2.2.2.1
  | hh => .codeWith M.1 M.2.1 M.2.2.1 M.2.2.2.1 hh
abbrev ab_ws (M : ab_M) : List Cond := ab_cw M :: ab_big
abbrev ab_rm (d mc ms : Nat) : Room := { frames := d + 10, cells := mc, slots := ms, locals := 40 * d + 220 }
/-- the start of a call -/
def ab_B (D : va_G) (dA : Nat → ClassId) (τ : Nat → Value) (σ : Nat → Nat) (h : ab_H) (sz : Nat) (U : State) : Prop := U.heap.size = sz ∧ ab_G none D dA τ (va_A (ab_w dA σ τ h) sz) U U.heap ∧ va_P D ab_cl (ab_w dA σ τ h) U.heap ∧ va_D (fun _ => True) (ab_w dA σ τ h)
/-- the things at its end -/
def ab_Z (D : va_G) (dA : Nat → ClassId) (τ : Nat → Value) (σ : Nat → Nat) (h : ab_H) (sz : Nat) (σ' : Nat → Nat) (h' : ab_H) (t : State) : Prop := ab_wf h' ∧ ab_ext σ σ' h.length ∧ h.length ≤ h'.length ∧ va_P D ab_cl (ab_w dA σ' τ h') t.heap ∧ va_D (va_A (ab_w dA σ τ h) sz) (ab_w dA σ' τ h')
def ab_Qc (D : va_G) (dA : Nat → ClassId) (τ : Nat → Value) (σ : Nat → Nat) (h : ab_H) (sz : Nat) (P : ab_O → ab_H → Prop) : Array Value → State → Outcome → State → Prop := fun _ st oc t =>
  (∃ (v : Option Value) (σ' : Nat → Nat) (h' : ab_H), oc = .returned (v.map (ab_v σ' τ)) ∧ P (.inl v) h' ∧ ab_okS h'.length v.toList ∧ ab_Z D dA τ σ h sz σ' h' t) ∧ va_F (va_A (ab_w dA σ τ h) sz) st t
def ab_Qx (D : va_G) (dA : Nat → ClassId) (τ : Nat → Value) (σ : Nat → Nat) (h : ab_H) (sz : Nat) (P : ab_O → ab_H → Prop) : String → State → State → Prop := fun N st t =>
  (∃ (E : Nat) (σ' : Nat → Nat) (h' : ab_H), N = ab_E E ∧ P (.inr E) h' ∧ ab_Z D dA τ σ h sz σ' h' t) ∧ va_F (va_A (ab_w dA σ τ h) sz) st t
/-- the method M, called with these arguments in this heap, d calls deep at most, mc things and ms slots made at most, comes to an end with P -/
def MS (M : ab_M) (d mc ms : Nat) (args : List Value) (h : ab_H) (P : ab_O → ab_H → Prop) : Prop :=
  ∀ (l : Launch), l.stackTraces = false → ∀ (D : va_G) (dA : Nat → ClassId) (τ : Nat → Value) (σ : Nat → Nat) (sz : Nat), ab_wf h → ab_okS h.length args → (∀ v ∈ args, (ab_v σ τ v).category = 1) →
    vx_Met l M.1 (ab_ws M) (ab_rm d mc ms) (va_Pc (args.map (ab_v σ τ)) (ab_B D dA τ σ h sz)) (ab_Qc D dA τ σ h sz P) (ab_Qx D dA τ σ h sz P) mc ms (va_A (ab_w dA σ τ h) sz)
theorem MS.post {M : ab_M} {d mc ms : Nat} {args : List Value} {h : ab_H} {P P' : ab_O → ab_H → Prop} (hp : ∀ o h', P' o h' → P o h') (k : MS M d mc ms args h P') : MS M d mc ms args h P := by
  intro l hl D dA τ σ sz hw ho hc
  have := k l hl D dA τ σ sz hw ho hc
  intro p e a1 a2 a3 s m args' below b1 b2 b3 b4
  obtain ⟨k1, o, h1, h2, h3, h4⟩ := this p e a1 a2 a3 s m args' below b1 b2 b3 b4
  refine ⟨k1, o, h1, h2, h3, ?_⟩
  rcases h4 with ⟨⟨⟨v, σ', h', e1, e2, e3, e4⟩, e5⟩, e6⟩ | ⟨q, e1, E, ce, L, ⟨⟨E', σ', h', f1, f2, f3⟩, f4⟩, e3⟩
  · exact Or.inl ⟨⟨⟨v, σ', h', e1, hp _ _ e2, e3, e4⟩, e5⟩, e6⟩
  · exact Or.inr ⟨q, e1, E, ce, L, ⟨⟨E', σ', h', f1, hp _ _ f2, f3⟩, f4⟩, e3⟩
/-- a method is its body -/
theorem MS.of {M : ab_M} {d mc ms : Nat} {args : List Value} {h : ab_H} {P : ab_O → ab_H → Prop} (hy : plainName M.1.cls = true) (hn : args.length ≤ M.2.2.1) (hcw : ab_cw M ∈ ab_big) (body : SW none M d mc ms 0 (args.map some ++ List.replicate (M.2.2.1 - args.length) none) [] h P) : MS M d mc ms args h P := by
  intro l hl D dA τ σ sz hw ho hc
  have main : ∀ (p : Program) (e : Env) (s : State) (m : MethodId) (args' : Array Value) (below : List Frame) (meth : Method) (c : Code) (s₁ : State), BodyLoose p l M.1 (headSpec (ab_ws M) (ab_rm d mc ms)) M.2.1 M.2.2.1 M.2.2.2.1 e s m args' below meth c s₁ → c.maxLocals = M.2.2.1 → c.exceptionTable.toList = tableOf M.2.2.2.2 → va_Pc (args.map (ab_v σ τ)) (ab_B D dA τ σ h sz) args' s →
      W p l e (headSpec (ab_ws M) (ab_rm d mc ms)).room s m args' below meth c s.heap [] 0 0 (vx_MQ below (ab_Qc D dA τ σ h sz P) (ab_Qx D dA τ σ h sz P) args' s mc ms (va_A (ab_w dA σ τ h) sz)) (entryFrame m args' M.2.2.1) := by
    intro p e s m args' below meth c s₁ B hml htab hv
    obtain ⟨rfl, hsz, hG, hP, hD⟩ := hv
    subst hsz
    have hts := atoms_spec (ws := ab_ws M) B.pre
    have hown : s.vm.findClass M.1.cls = some m.cls := findClass_of_methodNamed B.named
    have hlocks := B.notSynchronized
    have hD' := hD.self (sz := s.heap.size)
    have hS : va_S (va_A (ab_w dA σ τ h) s.heap.size) s.heap s.heap [] := va_S.rf
    have hlen : (lg_sl (args.map (ab_v σ τ))).length ≤ M.2.2.1 := by
      have : ∀ vs : List Value, (∀ v ∈ vs, v.category = 1) → (lg_sl vs).length = vs.length := by
        intro vs
        induction vs with
        | nil => intro _; rfl
        | cons a l ih =>
          intro h2
          have h1 := h2 a List.mem_cons_self
          show (((if a.category = 2 then [Slot.val a, Slot.second] else [Slot.val a]) : List Slot) ++ lg_sl l).length = l.length + 1
          rw [if_neg (by rw [h1]; decide), List.length_append, ih (fun v hv => h2 v (List.mem_cons_of_mem _ hv))]
          exact Nat.add_comm _ _
      rw [this _ (fun v hv => by obtain ⟨w, hw1, rfl⟩ := List.mem_map.mp hv; exact hc w hw1), List.length_map]; exact hn
    have hl0 := lv_entry (args.map (ab_v σ τ)) hlen
    have hl1 := ab_entry (k := M.2.2.1 - args.length) hc hl0
    rw [lg_entry_eq]
    generalize (lg_sl (args.map (ab_v σ τ)) ++ List.replicate (M.2.2.1 - (lg_sl (args.map (ab_v σ τ))).length) Slot.unset).toArray = lv at hl1 ⊢
    refine body p l e (ab_rm d mc ms) s m _ below meth c _ D dA τ (va_A (ab_w dA σ τ h) s.heap.size) σ h.length mc ms ⟨B.exec, hl, B.bytes, hml, B.returns, htab, hown, (name_of_methodNamed B.named B.method).1, hlocks, fun w hw => hts w (List.mem_cons_of_mem _ hw), hG, fun q hq => Or.inr hq, Nat.le_refl _, Nat.le_refl _, Nat.le_refl _, Nat.le_refl _, ?_, ?_⟩ σ s.heap [] 0 0 lv ⟨hP, hD', hS, hw, ab_ext_rf, Nat.le_refl _, by omega, by omega⟩ hl1 ?_ ab_okS_nil
    · intro v h' σ' H' locs' cells' slots' pc' lv' ins hPv hY hok hd hr
      obtain ⟨y1, y2, y3, y4, y5, y6, y7, y8⟩ := hY
      refine W.widen (k := mc) (n := ms) (by omega) (by omega) (vx_ret ?_)
      have key : ∀ (v' : Option Value) (t : State), v' = v.map (ab_v σ' τ) → t.heap = H' → ab_Qc D dA τ σ h s.heap.size P (args.map (ab_v σ τ)).toArray s (.returned v') t := fun v' t hv' ht => ⟨⟨v, σ', h', by rw [hv'], hPv, hok, y4, y5, y6, by rw [ht]; exact y1, y2⟩, y3.F ht⟩
      rcases hr with ⟨r1, r2, r3⟩ | ⟨ty, x, r1, r2, r3, r4⟩ | ⟨x, r1, r2, r3⟩ | ⟨x, r1, r2, r3⟩ | ⟨x, r1, r2, r3⟩ | ⟨ty, i, r1, r4, r2, r3⟩
      · subst r2; subst r3
        exact W.vret B.exec B.bytes (B.returns.trans r1) (fun t ht hW => key none t rfl ht) y3.2.2 hd
      · subst r2; subst r3
        exact W.zret B.exec B.bytes (B.returns.trans r1) r4 (fun t ht hW => key (some (.int x)) t rfl ht) y3.2.2 hd
      · subst r2; subst r3
        exact W.lret B.exec B.bytes (B.returns.trans r1) (fun t ht hW => key (some (.long x)) t rfl ht) y3.2.2 hd
      · subst r2; subst r3
        exact W.fret B.exec B.bytes (B.returns.trans r1) (fun t ht hW => key (some (.float x)) t rfl ht) y3.2.2 hd
      · subst r2; subst r3
        exact W.dret B.exec B.bytes (B.returns.trans r1) (fun t ht hW => key (some (.double x)) t rfl ht) y3.2.2 hd
      · subst r2; subst r3
        exact W.aret (v := .ref (σ' i)) B.exec B.bytes (B.returns.trans r1) r4 (Or.inr ⟨_, rfl⟩) (fun t ht hW => key (some (.ref (σ' i))) t rfl ht) y3.2.2 hd
    · intro E h' σ' H' locs' cells' slots' pc' lv' rest q ce hPE hY h1 h2 h3 hh
      obtain ⟨y1, y2, y3, y4, y5, y6, y7, y8⟩ := hY
      exact vx_out (fun x hx => by rw [htab, hh] at hx; cases hx) hlocks h1 h2 h3 (fun t ht hW => ⟨⟨E, σ', h', rfl, hPE, y4, y5, y6, by rw [ht]; exact y1, y2⟩, y3.F ht⟩) y3.2.2 (by omega) (by omega)
    · intro v hv
      rcases List.mem_append.mp hv with h1 | h1
      · obtain ⟨w, hw1, hw2⟩ := List.mem_map.mp h1
        cases hw2
        exact ho _ hw1
      · have := List.eq_of_mem_replicate h1
        cases this
  have hws : ab_ws M = ab_cw M :: ab_big := rfl
  unfold ab_cw at hws
  cases hh : M.2.2.2.2 with
  | nil =>
    rw [hh] at hws
    refine vx_ofW (cc := M.2.1) (maxL := M.2.2.1) (ret := M.2.2.2.1) hy hws ?_
    intro p e s m args' below meth c s₁ B hml htab hv
    refine main p e s m args' below meth c s₁ B hml ?_ hv
    rw [hh]
    cases hx : c.exceptionTable.toList with
    | nil => rfl
    | cons x xs => exact absurd (htab x (by rw [hx]; exact List.mem_cons_self)) id
  | cons x xs =>
    rw [hh] at hws
    refine vx_ofWH (cc := M.2.1) (maxL := M.2.2.1) (ret := M.2.2.2.1) (hh := x :: xs) hy hws ?_
    intro p e s m args' below meth c s₁ B hml hv
    refine main p e s m args' below meth c s₁ B hml ?_ hv
    rw [hh]
    exact vx_table (x := M.1) B (atoms_spec (ws := ab_ws M) B.pre _ (by rw [hws]; exact List.mem_cons_self))
section AB3
variable {sc : Option (List Int32)} {M N : ab_M} {d d1 rc rs mc ms pc : Nat} {ls : List (Option Value)} {st : List Value} {h : ab_H} {P P1 : ab_O → ab_H → Prop}
/-- behind a call: it returns or throws -/
theorem ab_back {p : Program} {l : Launch} {e : Env} {R : Room} {s : State} {m : MethodId} {args : Array Value} {below : List Frame} {meth : Method} {c : Code} {Q : State → Prop} {D : va_G} {dA : Nat → ClassId} {τ : Nat → Value} {A : Nat → Prop} {σ0 : Nat → Nat} {n0 Cm Sm : Nat} (hX : ab_X sc M d P p l e R s m args below meth c Q D dA τ A σ0 n0 Cm Sm) {σ : Nat → Nat} {H : Heap} {locs : List Loc} {cells slots : Nat} {lv : Array Slot} (hY : ab_Y s D dA τ A σ0 n0 Cm Sm (rc + mc) (rs + ms) σ h H locs cells slots) (hl : lv_has lv M.2.2.1 (ab_l σ τ ls)) (hol : ab_okL h.length ls) (hos : ab_okS h.length st) {st0 : List Value} {a : Array Value}
    (hr : vx_Run p l e R s m args below meth c H locs cells slots mc ms (F0 m pc lv st0) (st.map (ab_v σ τ)) (ab_Qc D dA τ σ h H.size P1 a) (ab_Qx D dA τ σ h H.size P1) (va_A (ab_w dA σ τ h) H.size))
    (kk : ∀ v h1, P1 (.inl v) h1 → SW sc M d rc rs (pc + 3) ls (v.toList ++ st) h1 P) (kx : ∀ E h1, P1 (.inr E) h1 → ST sc M d rc rs pc ls h1 E P) : W p l e R s m args below meth c H locs cells slots Q (F0 m pc lv st0) := by
  obtain ⟨y1, y2, y3, y4, y5, y6, y7, y8⟩ := id hY
  have hA := hX.2.2.2.2.2.2.2.2.2.2.2.1
  have hF : ∀ q, va_A (ab_w dA σ τ h) H.size q → A q := fun q hq => by
    rcases hq with ⟨k, e, hk⟩ | hq
    · exact y2.2 k (q, e) hk
    · exact hA q (Nat.le_trans y3.1 hq)
  have fin : ∀ (σ' : Nat → Nat) (h' : ab_H) (st₀ t T' : State) (L : List Loc), st₀.heap = H → T'.heap = t.heap → (∀ q ∈ L, va_A (ab_w dA σ τ h) H.size q.base) → ab_Z D dA τ σ h H.size σ' h' t → va_F (va_A (ab_w dA σ τ h) H.size) st₀ t → ab_Y s D dA τ A σ0 n0 Cm Sm rc rs σ' h' T'.heap (locs ++ L) (cells + mc) (slots + ms) := by
    intro σ' h' st₀ t T' L e0 e1 hL hZ hFF
    obtain ⟨z1, z2, z3, z4, z5⟩ := hZ
    obtain ⟨-, -, k3⟩ := vx_keep e0 e1 y3 (fun q _ hq => hF q hq) hF hL hFF
    exact ⟨by rw [e1]; exact z4, z5.weaken (fun _ q _ hq => hF q.1 hq), k3, z1, ab_ext_tr y5 z2 y6, Nat.le_trans y6 z3, by omega, by omega⟩
  intro T hT X
  rcases hr T hT X with ⟨v, st₀, t, T', L, h0, X', hL, e1, e2, ⟨⟨w, σ', h', hv, hP1, hok, hZ⟩, hFF⟩, st9⟩ | ⟨q, st₀, t, T', L, N9, ce, h0, X', hL, e1, e2, ⟨⟨E, σ', h', rfl, hP1, hZ⟩, hFF⟩, hce, hcv, hcl, st9⟩
  · cases hv
    have hY' := fin σ' h' st₀ t T' L h0 e1 hL hZ hFF
    obtain ⟨z1, z2, z3, z4, z5⟩ := hZ
    have kw := (kk w h' hP1).use hX hY' (by rw [ab_l_ext z2 hol]; exact hl) (ab_okL_mono z3 hol) (fun x hx => by
      rcases List.mem_append.mp hx with h1 | h1
      · exact hok x h1
      · exact ab_ok_mono z3 (hos x h1))
    have e5 : (w.toList ++ st).map (ab_v σ' τ) = (w.map (ab_v σ' τ)).toList ++ st.map (ab_v σ τ) := by
      rw [List.map_append, ab_map_ext z2 hos]
      cases w <;> rfl
    rw [e5] at kw
    obtain ⟨t2, a1, b1⟩ := kw T' rfl X'
    exact ⟨t2, st9 t2 a1, b1⟩
  · have hY' := fin σ' h' st₀ t T' L h0 e1 hL hZ hFF
    obtain ⟨z1, z2, z3, z4, z5⟩ := hZ
    obtain ⟨t2, a1, b1⟩ := kx E h' hP1 p l e R s m args below meth c Q D dA τ A σ0 n0 Cm Sm hX σ' T'.heap (locs ++ L) _ _ lv (st.map (ab_v σ τ)) q ce hY' (by rw [ab_l_ext z2 hol]; exact hl) (ab_okL_mono z3 hol) (by rw [e1]; exact hce) hcv hcl T' rfl X'
    exact ⟨t2, st9.trans a1, b1⟩
theorem ab_blind {D : va_G} {dA : Nat → ClassId} {τ : Nat → Value} {σ : Nat → Nat} {sz : Nat} {av : List Value} : FrameBlind (va_Pc av (ab_B D dA τ σ h sz)) := by
  intro a U g mk q
  obtain ⟨q0, q1, q2, q3, q4⟩ := q
  refine ⟨q0, q1, ?_, q3, q4⟩
  have h1 := ab_G.call (locs := []) (U := U.calling g mk a) q2 va_S.rf rfl (State.WarmedH.refl U) (fun _ h => h)
  exact h1
theorem ab_good {args : Array Value} {s : State} (hts : ∀ w ∈ ab_big, w.before args s = true) : ∀ w ∈ ab_big, ∀ (a' : Array Value) (U : State), s.WarmedH U.vm → w.before a' U = true := fun w hw a' U hW => word_at hW (good_of_word (List.mem_filter.mp hw).2) (hts w hw)
/-- what a callee is found by -/
def ab_LM (own : String) (idx : Nat) (N : ab_M) (n : Nat) : Prop := (Cond.methodLink own idx N.1 ∈ ab_big ∨ ∃ host, Cond.methodLinkNest own idx N.1 host ∈ ab_nest) ∧ ab_cw N ∈ ab_big ∧ N.2.2.2.2 = [] ∧ Cond.initialized N.1.cls ∈ ab_big ∧ (N.1.cls ≠ "java/lang/invoke/MethodHandle" ∧ N.1.cls ≠ "java/lang/invoke/VarHandle") ∧ (parseMethodDescriptor N.1.desc).map (fun d => d.parameters.length) = some n ∧ N.2.2.1 ≤ 21
def ab_LS (own : String) (idx : Nat) (N : ab_M) (n : Nat) : Prop := ab_LM own idx N n ∧ Cond.static N.1 ∈ ab_big
def ab_LV (own : String) (idx : Nat) (N : ab_M) (n : Nat) : Prop := ab_LM own idx N n ∧ Cond.instanceMethod N.1 ∈ ab_big ∧ Cond.selects N.1.cls N.1 N.1 ∈ ab_big
def ab_LI (own : String) (idx : Nat) (N : ab_M) (n : Nat) : Prop := ab_LM own idx N n ∧ Cond.instanceMethod N.1 ∈ ab_big ∧ N.1.name = "<init>" ∧ N.2.2.2.1 = none
theorem ab_callB {p : Program} {l : Launch} {e : Env} {R : Room} {s : State} {m : MethodId} {args : Array Value} {below : List Frame} {meth : Method} {c : Code} {Q : State → Prop} {D : va_G} {dA : Nat → ClassId} {τ : Nat → Value} {A : Nat → Prop} {σ0 : Nat → Nat} {n0 Cm Sm : Nat} (hX : ab_X sc M d P p l e R s m args below meth c Q D dA τ A σ0 n0 Cm Sm) {own : String} {idx n : Nat} (hL : ab_LM own idx N n) (hd1 : d1 + 1 ≤ d) :
    (CallB R s args own idx N.1 N.2.1 N.2.2.1 N.2.2.2.1 (ab_ws N) (ab_rm d1 mc ms) mc ms n ∨ ∃ host, va_CN R s args own idx N.1 host N.2.1 N.2.2.1 N.2.2.2.1 (ab_ws N) (ab_rm d1 mc ms) mc ms n) := by
  obtain ⟨l1, l2, l3, l4, l5, l6, l7⟩ := hL
  obtain ⟨-, -, -, -, -, -, -, -, -, hts, hG, -, x13, x14, -⟩ := hX
  have hcode : ab_cw N = Cond.code N.1 N.2.1 N.2.2.1 N.2.2.2.1 := by unfold ab_cw; rw [l3]
  have h5 : ∀ w ∈ ab_ws N, ∀ (a' : Array Value) (U : State), s.WarmedH U.vm → w.before a' U = true := fun w hw => by
    rcases List.mem_cons.mp hw with rfl | hw
    · exact ab_good hts _ l2
    · exact ab_good hts w hw
  have h6 : Cond.code N.1 N.2.1 N.2.2.1 N.2.2.2.1 ∈ ab_ws N := by rw [← hcode]; exact List.mem_cons_self
  have h7 := hts _ l2
  rw [hcode] at h7
  have h8 : ∀ sig, parseMethodDescriptor N.1.desc = some sig → n = sig.parameters.length := fun sig hs => by
    rw [hs] at l6
    exact (Option.some.inj l6).symm
  have f1 : (ab_rm d1 mc ms).frames + 1 ≤ R.frames := by show d1 + 10 + 1 ≤ _; omega
  have f2 : 8 + (N.2.2.1 + 11) + (ab_rm d1 mc ms).locals ≤ R.locals := by show 8 + (N.2.2.1 + 11) + (40 * d1 + 220) ≤ _; omega
  rcases l1 with l1 | ⟨host, l1⟩
  · exact Or.inl ⟨rfl, rfl, f1, f2, h5, h6, h7, hts _ l4, l5, h8, hts _ l1⟩
  · exact Or.inr ⟨host, ⟨rfl, rfl, f1, f2, h5, h6⟩, h7, hts _ l4, l5, h8, va_Nw.use rfl (hG.2.1 _ l1)⟩
theorem ab_sumcat {σ : Nat → Nat} {τ : Nat → Value} (hr : (st.map (ab_v σ τ)).map (fun v => v.category) = st.map fun v => v.category) (hc : (st.map fun v => v.category).sum ≤ 8) {m : MethodId} {lv : Array Slot} {rest : List Value} : 2 * (F0 m pc lv rest).monitorRoom + ((st.map (ab_v σ τ)).map fun v => v.category).sum ≤ 8 := by
  rw [hr]; exact lv_room hc
theorem sw_callS {idx n : Nat} {As : List Value} (hd : decode M.2.1 pc = .ok (.invokestatic idx, 3)) (hL : ab_LS M.1.cls idx N n) (hm : MS N d1 mc ms As h P1) (hd1 : d1 + 1 ≤ d) (hn : As.length = n) {st1 : List Value} (hst : st1 = As.reverse ++ st) (hc : (st.map fun v => v.category).sum ≤ 8) (hr : ∀ σ τ, (st.map (ab_v σ τ)).map (fun v => v.category) = st.map fun v => v.category) (ha : ∀ σ τ v, v ∈ As → (∃ k, v = .retAddr k) ∨ (ab_v σ τ v).category = 1) (ht : ∀ k, .retAddr k ∈ As → k < 6 ∨ (10 ≤ k ∧ k < 16) ∨ k = 50)
    (kk : ∀ v h1, P1 (.inl v) h1 → SW sc M d rc rs (pc + 3) ls (v.toList ++ st) h1 P) (kx : ∀ E h1, P1 (.inr E) h1 → ST sc M d rc rs pc ls h1 E P) : SW sc M d (rc + mc) (rs + ms) pc ls st1 h P := by
  intro p l e R s m args below meth c Q D dA τ A σ0 n0 Cm Sm hX σ H locs cells slots lv hY hl hol hos
  subst hst
  have hcat : ∀ v ∈ As, (ab_v σ τ v).category = 1 := fun v hv => by
    rcases ha σ τ v hv with ⟨k, rfl⟩ | h1
    · rcases ht k hv with h2 | h2 | h2
      · obtain ⟨a, e1⟩ := ab_G.txt hX.2.2.2.2.2.2.2.2.2.2.1 (Or.inl h2)
        show (τ k).category = 1
        rw [e1]; rfl
      · obtain ⟨a, e1⟩ := ab_G.txt hX.2.2.2.2.2.2.2.2.2.2.1 (Or.inr (Or.inl h2))
        show (τ k).category = 1
        rw [e1]; rfl
      · subst h2
        obtain ⟨-, -, -, -, -, -, -, g9, -⟩ := hX.2.2.2.2.2.2.2.2.2.2.1
        exact g9.2
    · exact h1
  have hoA : ab_okS h.length As := fun v hv => hos v (List.mem_append_left _ (List.mem_reverse.mpr hv))
  have hoS : ab_okS h.length st := fun v hv => hos v (List.mem_append_right _ hv)
  obtain ⟨y1, y2, y3, y4, y5, y6, y7, y8⟩ := id hY
  have hM := hm l hX.2.1 D dA τ σ H.size y4 hoA hcat
  obtain ⟨x1, -, x3, x4, -, -, x7, -, -, x10, x11, x12, -, -, x15, x16, -, -⟩ := id hX
  have hst2 : (F0 m pc lv ((As.reverse ++ st).map (ab_v σ τ))).stack = (As.map (ab_v σ τ)).reverse ++ st.map (ab_v σ τ) := by
    show (As.reverse ++ st).map (ab_v σ τ) = _
    rw [List.map_append, List.map_reverse]
  have hF : ∀ q, va_A (ab_w dA σ τ h) H.size q → A q := fun q hq => by
    rcases hq with ⟨k, e, hk⟩ | hq
    · exact y2.2 k (q, e) hk
    · exact x12 q (Nat.le_trans y3.1 hq)
  have hpre : PreS s H (va_Pc (As.map (ab_v σ τ)) (ab_B D dA τ σ h H.size)) (As.map (ab_v σ τ)) := ⟨ab_blind, fun U hU hW => ⟨rfl, by rw [hU], x11.call y3 hU hW hF, by rw [hU]; exact y1, y2.weaken (fun _ _ _ _ => trivial)⟩⟩
  rcases ab_callB (mc := mc) (ms := ms) hX hL.1 hd1 with cb | ⟨host, cb⟩
  · exact ab_back hX hY hl hol hoS (vx_runS ⟨x1, x3, x4, x7, x10⟩ hM ⟨cb, x10 _ hL.2⟩ hpre rfl (by rw [List.length_map]; exact hn) hl.1 hst2 (ab_sumcat (hr σ τ) hc) hd ⟨by omega, by omega⟩) kk kx
  · exact ab_back hX hY hl hol hoS (vx_runSN ⟨x1, x3, x4, x7, x10⟩ hM ⟨cb, x10 _ hL.2, trivial⟩ hpre rfl (by rw [List.length_map]; exact hn) hl.1 hst2 (ab_sumcat (hr σ τ) hc) hd ⟨by omega, by omega⟩) kk kx
theorem sw_callV {idx n r ci : Nat} {fs : List Value} {q : vw_C} {As : List Value} (hd : decode M.2.1 pc = .ok (.invokevirtual idx, 3)) (hL : ab_LV M.1.cls idx N n) (hm : MS N d1 mc ms (.ref r :: As) h P1) (hrc : h[r]? = some (ci, fs)) (hcl : ab_cl[ci]? = some q) (hci : ci < 100) (hqn : q.1 = N.1.cls) (hd1 : d1 + 1 ≤ d) (hn : As.length = n) {st1 : List Value} (hst : st1 = As.reverse ++ .ref r :: st) (hc : (st.map fun v => v.category).sum ≤ 8) (hr : ∀ σ τ, (st.map (ab_v σ τ)).map (fun v => v.category) = st.map fun v => v.category) (ha : ∀ σ τ v, v ∈ As → (∃ k, v = .retAddr k) ∨ (ab_v σ τ v).category = 1) (ht : ∀ k, .retAddr k ∈ As → k < 6)
    (kk : ∀ v h1, P1 (.inl v) h1 → SW sc M d rc rs (pc + 3) ls (v.toList ++ st) h1 P) (kx : ∀ E h1, P1 (.inr E) h1 → ST sc M d rc rs pc ls h1 E P) : SW sc M d (rc + mc) (rs + ms) pc ls st1 h P := by
  intro p l e R s m args below meth c Q D dA τ A σ0 n0 Cm Sm hX σ H locs cells slots lv hY hl hol hos
  subst hst
  have hcat : ∀ v ∈ (.ref r :: As), (ab_v σ τ v).category = 1 := fun v hv => by
    rcases List.mem_cons.mp hv with rfl | hv
    · rfl
    · rcases ha σ τ v hv with ⟨k, rfl⟩ | h1
      · obtain ⟨a, e1⟩ := ab_G.txt hX.2.2.2.2.2.2.2.2.2.2.1 (Or.inl (ht k hv))
        show (τ k).category = 1
        rw [e1]; rfl
      · exact h1
  have hoA : ab_okS h.length (.ref r :: As) := fun v hv => by
    rcases List.mem_cons.mp hv with rfl | hv
    · exact hos _ (List.mem_append_right _ List.mem_cons_self)
    · exact hos v (List.mem_append_left _ (List.mem_reverse.mpr hv))
  have hoS : ab_okS h.length st := fun v hv => hos v (List.mem_append_right _ (List.mem_cons_of_mem _ hv))
  obtain ⟨y1, y2, y3, y4, y5, y6, y7, y8⟩ := id hY
  have hM := hm l hX.2.1 D dA τ σ H.size y4 hoA hcat
  obtain ⟨x1, -, x3, x4, -, -, x7, -, -, x10, x11, x12, -, -, x15, x16, -, -⟩ := id hX
  have hst2 : (F0 m pc lv ((As.reverse ++ .ref r :: st).map (ab_v σ τ))).stack = (As.map (ab_v σ τ)).reverse ++ .ref (σ r) :: st.map (ab_v σ τ) := by
    show (As.reverse ++ .ref r :: st).map (ab_v σ τ) = _
    rw [List.map_append, List.map_reverse]; rfl
  have hF : ∀ q, va_A (ab_w dA σ τ h) H.size q → A q := fun q hq => by
    rcases hq with ⟨k, e, hk⟩ | hq
    · exact y2.2 k (q, e) hk
    · exact x12 q (Nat.le_trans y3.1 hq)
  have hrecv : ∃ cell : Cell, H[σ r]? = some cell ∧ cell.vm.isStatics = false ∧ s.vm.findClass N.1.cls = some cell.cls := by
    rw [← hqn]; exact va_recv x11.1 y1 hcl (ab_w_obj hrc hci)
  have hpre : PreV s H N.1.cls (σ r) (va_Pc ((.ref r :: As).map (ab_v σ τ)) (ab_B D dA τ σ h H.size)) (As.map (ab_v σ τ)) := ⟨ab_blind, hrecv, fun U hU hW => ⟨rfl, by rw [hU], x11.call y3 hU hW hF, by rw [hU]; exact y1, y2.weaken (fun _ _ _ _ => trivial)⟩⟩
  rcases ab_callB (mc := mc) (ms := ms) hX hL.1 hd1 with cb | ⟨host, cb⟩
  · exact ab_back hX hY hl hol hoS (vx_runV (C := N.1.cls) ⟨x1, x3, x4, x7, x10⟩ hM ⟨cb, x10 _ hL.2.1, x10 _ hL.2.2⟩ hpre rfl (by rw [List.length_map]; exact hn) hl.1 hst2 (ab_sumcat (hr σ τ) hc) hd ⟨by omega, by omega⟩) kk kx
  · exact ab_back hX hY hl hol hoS (vx_runVN (C := N.1.cls) ⟨x1, x3, x4, x7, x10⟩ hM ⟨cb, x10 _ hL.2.1, x10 _ hL.2.2⟩ hpre rfl (by rw [List.length_map]; exact hn) hl.1 hst2 (ab_sumcat (hr σ τ) hc) hd ⟨by omega, by omega⟩) kk kx
/-- a constructor -/
theorem sw_callI {idx n r : Nat} {As : List Value} (hd : decode M.2.1 pc = .ok (.invokespecial idx, 3)) (hL : ab_LI M.1.cls idx N n) (hm : MS N d1 mc ms (.ref r :: As) h P1) (hd1 : d1 + 1 ≤ d) (hn : As.length = n) {st1 : List Value} (hst : st1 = As.reverse ++ .ref r :: st) (hc : (st.map fun v => v.category).sum ≤ 8) (hr : ∀ σ τ, (st.map (ab_v σ τ)).map (fun v => v.category) = st.map fun v => v.category) (ha : ∀ σ τ v, v ∈ As → (ab_v σ τ v).category = 1)
    (kk : ∀ v h1, P1 (.inl v) h1 → SW sc M d rc rs (pc + 3) ls (v.toList ++ st) h1 P) (kx : ∀ E h1, P1 (.inr E) h1 → ST sc M d rc rs pc ls h1 E P) : SW sc M d (rc + mc) (rs + ms) pc ls st1 h P := by
  intro p l e R s m args below meth c Q D dA τ A σ0 n0 Cm Sm hX σ H locs cells slots lv hY hl hol hos
  subst hst
  have hcat : ∀ v ∈ (.ref r :: As), (ab_v σ τ v).category = 1 := fun v hv => by
    rcases List.mem_cons.mp hv with rfl | hv
    · rfl
    · exact ha σ τ v hv
  have hoA : ab_okS h.length (.ref r :: As) := fun v hv => by
    rcases List.mem_cons.mp hv with rfl | hv
    · exact hos _ (List.mem_append_right _ List.mem_cons_self)
    · exact hos v (List.mem_append_left _ (List.mem_reverse.mpr hv))
  have hoS : ab_okS h.length st := fun v hv => hos v (List.mem_append_right _ (List.mem_cons_of_mem _ hv))
  obtain ⟨y1, y2, y3, y4, y5, y6, y7, y8⟩ := id hY
  have hM := hm l hX.2.1 D dA τ σ H.size y4 hoA hcat
  obtain ⟨x1, -, x3, x4, -, -, x7, -, -, x10, x11, x12, -, -, x15, x16, -, -⟩ := id hX
  have hst2 : (F0 m pc lv ((As.reverse ++ .ref r :: st).map (ab_v σ τ))).stack = (As.map (ab_v σ τ)).reverse ++ .ref (σ r) :: st.map (ab_v σ τ) := by
    show (As.reverse ++ .ref r :: st).map (ab_v σ τ) = _
    rw [List.map_append, List.map_reverse]; rfl
  have hF : ∀ q, va_A (ab_w dA σ τ h) H.size q → A q := fun q hq => by
    rcases hq with ⟨k, e, hk⟩ | hq
    · exact y2.2 k (q, e) hk
    · exact x12 q (Nat.le_trans y3.1 hq)
  have hpre : PreS s H (va_Pc ((.ref r :: As).map (ab_v σ τ)) (ab_B D dA τ σ h H.size)) (.ref (σ r) :: As.map (ab_v σ τ)) := ⟨ab_blind, fun U hU hW => ⟨rfl, by rw [hU], x11.call y3 hU hW hF, by rw [hU]; exact y1, y2.weaken (fun _ _ _ _ => trivial)⟩⟩
  obtain ⟨l1, l2, l3, l4⟩ := hL
  rcases ab_callB (mc := mc) (ms := ms) hX l1 hd1 with cb | ⟨host, cb⟩
  · rw [l4] at cb
    exact ab_back hX hY hl hol hoS (vx_runI ⟨x1, x3, x4, x7, x10⟩ hM ⟨cb, l3, x10 _ l2⟩ hpre rfl (by rw [List.length_map]; exact hn) hl.1 hst2 (ab_sumcat (hr σ τ) hc) hd ⟨by omega, by omega⟩) kk kx
  · rw [l4] at cb
    exact ab_back hX hY hl hol hoS (vx_runIN ⟨x1, x3, x4, x7, x10⟩ hM ⟨cb, l3, x10 _ l2⟩ hpre rfl (by rw [List.length_map]; exact hn) hl.1 hst2 (ab_sumcat (hr σ τ) hc) hd ⟨by omega, by omega⟩) kk kx
end AB3
