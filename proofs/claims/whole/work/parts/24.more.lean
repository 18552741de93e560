section AB4K
variable {p : Program} {l : Launch} {e : Env} {R : Room} {s : State} {m : MethodId} {args : Array Value} {below : List Frame} {meth : Method} {c : Code} {H : Heap} {locs : List Loc} {cells slots : Nat} {Q : State → Prop}
variable {ls : Array Slot} {rest : List Value} {D : va_G} {cl : List vw_C} {tys : List (ClassId × FieldType)} {ws : va_W}
/-- the sister of vx_makeS (a row of kit/laws/EXCEPTIONS, turned) for a text by ldc_w -/
theorem ab_makeSW {cc : ByteArray} {pc : Nat} (hexec : p.tables.exec = Jvm.exec) (hb : c.code = cc) (hl : l.stackTraces = false) {own cls text : String} {names : List String} {ik is ic sa ci : Nat} {A : Nat → Prop} {T0 : u_T}
    (hown : s.vm.findClass own = some m.cls) (hcls : Bundle.fit cls = true) (hnames : ∀ n ∈ names, Bundle.fit n = true)
    (hk : (Cond.classLink own ik cls).before args s = true) (hini : (Cond.initialized cls).before args s = true) (hstr : vk_R own is text sa s) (hat : ∀ w ∈ vx_atS own ic cls names, w.before args s = true)
    (hgood : ∀ w ∈ Cond.classLink own ik cls :: Cond.initialized cls :: vx_atS own ic cls names, vx_ot w = true)
    (hU : vx_Zq Bundle.tN "UNASSIGNED_STACK" Bundle.steD A s s.heap) (hN : vx_Zq Bundle.tN "SUPPRESSED_SENTINEL" Bundle.listD A s s.heap) (hS : va_S A s.heap H locs) (hsize : ls.size = c.maxLocals)
    (d0 : decode cc pc = .ok (.new ik, 3)) (d3 : decode cc (pc + 3) = .ok (.dup, 1)) (d4 : decode cc (pc + 4) = .ok (.ldc_w is, 3)) (d6 : decode cc (pc + 7) = .ok (.invokespecial ic, 3))
    (hK : va_K D cl tys s) (hP : va_P D cl ws H) (hD : va_D A ws) (hA : ∀ q, s.heap.size ≤ q → A q) (hc : cl[ci]? = some (cls, T0, 0))
    (hRframes : names.length + 3 < R.frames) (hRlocals : (rest.map fun v => v.category).sum + (13 * (names.length + 1) + 43) ≤ R.locals) (hRcells : cells + 1 ≤ R.cells) (hRslots : slots + 6 ≤ R.slots)
    (kk : ∀ (q : Nat) (H1 : Heap), va_P D cl (ws ++ [(q, .inr (ci, []))]) H1 → va_D A (ws ++ [(q, .inr (ci, []))]) → va_S A s.heap H1 locs → W p l e R s m args below meth c H1 locs (cells + 1) (slots + 6) Q (F0 m (pc + 10) ls (.ref q :: rest))) :
    W p l e R s m args below meth c H locs cells slots Q (F0 m pc ls rest) := by
  intro T hT X
  subst hT
  have htr : e.platform.stackTraces = false := (show e.platform.stackTraces = l.stackTraces by rw [X.admits.platform]).trans hl
  have Y := vx_rebase X (R' := { frames := R.frames, locals := R.locals, cells := 1, slots := 6 }) (Nat.le_refl _) (Nat.le_refl _) hRcells hRslots
  obtain ⟨s', hA'⟩ : ∃ z, z = (T.setVm s.vm).setFrames (.invoking m args :: below) := ⟨_, rfl⟩
  rw [← hA'] at Y
  have hvm : s'.vm = s.vm := by rw [hA']; rfl
  have hhp : s'.heap = T.heap := by rw [hA']; rfl
  have hW0 : s.WarmedH s'.vm := by rw [hvm]; exact State.WarmedH.refl s
  have hat' : ∀ w ∈ vx_atS own ic cls names, w.before args s' = true := fun w hw => vx_ot_at hW0 hvm.symm (hgood w (List.mem_cons_of_mem _ (List.mem_cons_of_mem _ hw))) (hat w hw)
  have hk' : (Cond.classLink own ik cls).before args s' = true := vx_ot_at hW0 hvm.symm (hgood _ List.mem_cons_self) hk
  have hini' : (Cond.initialized cls).before args s' = true := vx_ot_at hW0 hvm.symm (hgood _ (List.mem_cons_of_mem _ List.mem_cons_self)) hini
  have hU' : vx_Zq Bundle.tN "UNASSIGNED_STACK" Bundle.steD A s' s'.heap := by rw [hhp]; exact vx_Zq.moved hW0.alike (hU.kept hS.2.1)
  have hN' : vx_Zq Bundle.tN "SUPPRESSED_SENTINEL" Bundle.listD A s' s'.heap := by rw [hhp]; exact vx_Zq.moved hW0.alike (hN.kept hS.2.1)
  have h : ∀ w ∈ Bundle.ownAtoms own ic cls names, w.before args s' = true := vx_own hat' (vx_isRefq hU'.1) (vx_isRefq hN'.1) hU'.2.word hN'.2.word
  have hown' : s'.vm.findClass own = some m.cls := by rw [hvm]; exact hown
  have hins : (Cond.instantiable cls 6).before args s' = true := h _ (by simp [Bundle.ownAtoms])
  obtain ⟨vm₁, cX, kX, hfX, hkX, -, -, X₁, st1⟩ := Y.newCold hexec (own := own) (C := cls) (index := ik) (n := 6) hown' hk' hins hini'
    (g := F0 m pc ls rest) rfl (by rw [hb]; exact d0) (Nat.le_refl _) (Nat.le_refl _)
  generalize hT1 : (T.setVm vm₁).pushCell { cls := cX, slots := kX.instanceTypes.map defaultValue, vm := .none } = T1 at X₁ st1
  have hcat : (Value.ref T.heap.size).category = 1 := rfl
  have hcellA : T1.heap[T.heap.size]? = some (freshCell cX kX) := by rw [← hT1]; exact State.heap_pushCell_size _ _
  have d3' : decode c.code (pc + 3) = .ok (.dup, 1) := by rw [hb]; exact d3
  have d4' : decode c.code (pc + 4) = .ok (.ldc_w is, 3) := by rw [hb]; exact d4
  have hstr' : vk_R own is text sa s' := vk_R.warm hW0 hstr
  obtain ⟨V, ce, L, Z, hL, hlt, hcl9, hvm9, st⟩ := vx_ctorMadeS X₁ hexec htr (own := own) (cls := cls) (names := names) (ic := ic) hown' hcls hnames h (fun x hx => nomatch hx) hfX hkX hcellA (by rw [hhp]; exact Nat.le_refl _) (msg := .ref sa) rfl
    (g := { method := m, pc := pc + 7, locals := ls, stack := .ref sa :: .ref T.heap.size :: .ref T.heap.size :: rest, locked := none }) rfl hsize (rest := rest) rfl
    (by rw [hb]; exact d6) hRframes (by simp only [List.map_cons, List.sum_cons, hcat]; omega)
  have Z0 := Stand.forget (locs := []) Z (fun y hy => by rw [hL y hy, hhp]; exact Nat.le_refl _)
  obtain ⟨f1, f2⟩ := vx_frame Z0.same
  rw [hhp] at f1 f2
  have hcid : ce.cls = D.1 ci := by
    rw [hcl9]
    have h1 := (hK.1 ci _ hc).2.1
    rw [hvm] at hfX
    exact Option.some.inj (hfX.symm.trans h1)
  have hh : (V.setCell T.heap.size ce).heap[T.heap.size]? = some ce := heapAt_setCell_self (s := V) ce hlt
  subst hA'
  have X5 := vx_back9 X Y Z0
  have X6 : Stand p l e R s m args below meth c (V.setCell T.heap.size ce) locs (cells + 1) (slots + 6) := { X5 with same := X5.same.mono (by omega) (by omega) }
  have hk9 : ∀ (k : Nat) (x : Nat × va_E), ws[k]? = some x → (V.setCell T.heap.size ce).heap[x.1]? = T.heap[x.1]? := fun k x hx => f2 x.1 ((hP k x hx).lt) (fun z hz => nomatch hz)
  obtain ⟨t, a1, b1⟩ := kk T.heap.size (V.setCell T.heap.size ce).heap ((hP.kept hk9).app (fun k x hx => by
      have hz : k < 1 := (List.getElem?_eq_some_iff.mp hx).1
      rw [show k = 0 by omega] at hx
      cases hx
      exact ⟨_, hc, ce, hh, hcid, hvm9, fun k hk => absurd hk (Nat.not_lt_zero k)⟩)) (hD.push hP rfl (hA _ hS.1)) ⟨Nat.le_trans hS.1 f1, fun q h1 h2 => (f2 q (Nat.lt_of_lt_of_le h1 hS.1) (fun z hz => nomatch hz)).trans (hS.2.1 q h1 h2), hS.2.2⟩ _ rfl X6
  refine ⟨t, st1 _ ?_, b1⟩
  show Steps p.tables e below (T1.setTop { method := m, pc := pc + 3, locals := ls, stack := .ref T.heap.size :: rest, locked := none }) _
  jvm_step X₁.here [X₁.here.top, hexec, d3', Value.category]
  exact X₁.ldcStringW hexec (own := own) (text := text) (index := is) (a := sa) hown' hstr'.1 hstr'.2
    (g := { method := m, pc := pc + 4, locals := ls, stack := .ref T.heap.size :: .ref T.heap.size :: rest, locked := none }) rfl d4' _ (st _ a1)
end AB4K
section AB4
variable {sc : Option (List Int32)} {M : ab_M} {d rc rs pc : Nat} {ls : List (Option Value)} {st : List Value} {h : ab_H} {P : ab_O → ab_H → Prop}
/-- 'throw new E("text")' -/
def ab_LT (own : String) (ik ic E : Nat) (names : List String) : Prop := Bundle.fit (ab_E E) = true ∧ (∀ n ∈ names, Bundle.fit n = true) ∧ names.length ≤ 4 ∧ 0 < E ∧ E < 5 ∧ (∀ w ∈ Cond.classLink own ik (ab_E E) :: Cond.initialized (ab_E E) :: vx_atS own ic (ab_E E) names, (w ∈ ab_big ∨ w ∈ ab_nest) ∧ vx_ot w = true)
theorem ab_clE {E : Nat} (h0 : 0 < E) (h5 : E < 5) : ab_cl[10 + E]? = some (ab_E E, TX0, 0) := by
  rcases (show E = 1 ∨ E = 2 ∨ E = 3 ∨ E = 4 by omega) with rfl | rfl | rfl | rfl <;> rfl
theorem ab_threw {p : Program} {l : Launch} {e : Env} {R : Room} {s : State} {m : MethodId} {args : Array Value} {below : List Frame} {meth : Method} {c : Code} {Q : State → Prop} {D : va_G} {dA : Nat → ClassId} {τ : Nat → Value} {A : Nat → Prop} {σ0 : Nat → Nat} {n0 Cm Sm : Nat} (hX : ab_X sc M d P p l e R s m args below meth c Q D dA τ A σ0 n0 Cm Sm) {σ : Nat → Nat} {H H1 : Heap} {locs : List Loc} {cells slots q pc' : Nat} {lv : Array Slot} {rest : List Value} {E : Nat} (hY : ab_Y s D dA τ A σ0 n0 Cm Sm (rc + 1) (rs + 6) σ h H locs cells slots) (hl : lv_has lv M.2.2.1 (ab_l σ τ ls)) (hol : ab_okL h.length ls) (h0 : 0 < E) (h5 : E < 5) (hd : decode M.2.1 pc' = .ok (.athrow, 1))
    (hP : va_P D ab_cl (ab_w dA σ τ h ++ [(q, .inr (10 + E, []))]) H1) (hD : va_D A (ab_w dA σ τ h ++ [(q, .inr (10 + E, []))])) (hS : va_S A s.heap H1 locs) (k : ST sc M d rc rs pc' ls h E P) : W p l e R s m args below meth c H1 locs (cells + 1) (slots + 6) Q (F0 m pc' lv (.ref q :: rest)) := by
  obtain ⟨y1, y2, y3, y4, y5, y6, y7, y8⟩ := hY
  have hsub : ∀ (k : Nat) (x : Nat × va_E), (ab_w dA σ τ h)[k]? = some x → (ab_w dA σ τ h ++ [(q, .inr (10 + E, []))])[k]? = some x := fun k x hx => by
    rw [List.getElem?_append_left (List.getElem?_eq_some_iff.mp hx).1]; exact hx
  have hP' : va_P D ab_cl (ab_w dA σ τ h) H1 := fun k x hx => hP k x (hsub k x hx)
  have hD' : va_D A (ab_w dA σ τ h) := ⟨fun i j x y hx hy hxy => hD.1 i j x y (hsub i x hx) (hsub j y hy) hxy, fun k x hx => hD.2 k x (hsub k x hx)⟩
  have hq : (ab_w dA σ τ h ++ [(q, .inr (10 + E, []))])[(ab_w dA σ τ h).length]? = some (q, .inr (10 + E, [])) := by
    rw [List.getElem?_append_right (Nat.le_refl _), Nat.sub_self]; rfl
  obtain ⟨r, e1, cell, e2, e3, e4, -⟩ := hP _ _ hq
  have e5 := (hX.2.2.2.2.2.2.2.2.2.2.1.1.1 (10 + E) _ (ab_clE h0 h5)).2.1
  exact vx_athrow hX.1 hX.2.2.1 hd (k p l e R s m args below meth c Q D dA τ A σ0 n0 Cm Sm hX σ H1 locs _ _ lv rest q cell ⟨hP', hD', hS, y4, y5, y6, by omega, by omega⟩ hl hol e2 e4 (by rw [e3]; exact e5))
theorem sw_throw {ik is ic E : Nat} {names : List String} {text : String} (d0 : decode M.2.1 pc = .ok (.new ik, 3)) (d3 : decode M.2.1 (pc + 3) = .ok (.dup, 1)) (d4 : decode M.2.1 (pc + 4) = .ok (.ldc is, 2)) (d6 : decode M.2.1 (pc + 6) = .ok (.invokespecial ic, 3)) (d9 : decode M.2.1 (pc + 9) = .ok (.athrow, 1)) (hL : ab_LT M.1.cls ik ic E names) (hs : Cond.stringRef M.1.cls is text ∈ lw_tbl) (hc : (st.map fun v => v.category).sum ≤ 8) (hr : ∀ σ τ, (st.map (ab_v σ τ)).map (fun v => v.category) = st.map fun v => v.category)
    (k : ST sc M d rc rs (pc + 9) ls h E P) : SW sc M d (rc + 1) (rs + 6) pc ls st h P := by
  intro p l e R s m args below meth c Q D dA τ A σ0 n0 Cm Sm hX σ H locs cells slots lv hY hl hol hos
  obtain ⟨l1, l2, l3, l4, l5, l6⟩ := hL
  obtain ⟨x1, x2, x3, x4, -, -, x7, -, -, x10, x11, x12, x13, x14, x15, x16, -, -⟩ := id hX
  obtain ⟨y1, y2, y3, y4, y5, y6, y7, y8⟩ := id hY
  have hw : ∀ w ∈ Cond.classLink M.1.cls ik (ab_E E) :: Cond.initialized (ab_E E) :: vx_atS M.1.cls ic (ab_E E) names, w.before args s = true := fun w hw => by
    obtain ⟨h1 | h1, h2⟩ := l6 w hw
    · exact x10 w h1
    · have h3 := x11.2.1 w h1
      have h4 := (List.mem_filter.mp h1).2
      cases w <;> first | exact va_Nw.use rfl h3 | (simp [ab_isN] at h4; done)
  obtain ⟨a, ha, -⟩ := x11.2.2.1 _ _ _ hs
  exact vx_makeS x1 x3 x2 x7 l1 l2 (hw _ List.mem_cons_self) (hw _ (List.mem_cons_of_mem _ List.mem_cons_self)) ha (fun w h => hw w (List.mem_cons_of_mem _ (List.mem_cons_of_mem _ h))) (fun w h => (l6 w h).2) x11.2.2.2.2.1 x11.2.2.2.2.2.1 y3 (hl.1.trans x4.symm) d0 d3 d4 d6 x11.1 y1 y2 x12 (ab_clE l4 l5) (by omega) (by rw [hr σ τ]; omega) (by omega) (by omega)
    (fun q H1 hP hD hS => ab_threw hX hY hl hol l4 l5 d9 hP hD hS k)
theorem sw_throwW {ik is ic E : Nat} {names : List String} {text : String} (d0 : decode M.2.1 pc = .ok (.new ik, 3)) (d3 : decode M.2.1 (pc + 3) = .ok (.dup, 1)) (d4 : decode M.2.1 (pc + 4) = .ok (.ldc_w is, 3)) (d6 : decode M.2.1 (pc + 7) = .ok (.invokespecial ic, 3)) (d9 : decode M.2.1 (pc + 10) = .ok (.athrow, 1)) (hL : ab_LT M.1.cls ik ic E names) (hs : Cond.stringRef M.1.cls is text ∈ lw_tbl) (hc : (st.map fun v => v.category).sum ≤ 8) (hr : ∀ σ τ, (st.map (ab_v σ τ)).map (fun v => v.category) = st.map fun v => v.category)
    (k : ST sc M d rc rs (pc + 10) ls h E P) : SW sc M d (rc + 1) (rs + 6) pc ls st h P := by
  intro p l e R s m args below meth c Q D dA τ A σ0 n0 Cm Sm hX σ H locs cells slots lv hY hl hol hos
  obtain ⟨l1, l2, l3, l4, l5, l6⟩ := hL
  obtain ⟨x1, x2, x3, x4, -, -, x7, -, -, x10, x11, x12, x13, x14, x15, x16, -, -⟩ := id hX
  obtain ⟨y1, y2, y3, y4, y5, y6, y7, y8⟩ := id hY
  have hw : ∀ w ∈ Cond.classLink M.1.cls ik (ab_E E) :: Cond.initialized (ab_E E) :: vx_atS M.1.cls ic (ab_E E) names, w.before args s = true := fun w hw => by
    obtain ⟨h1 | h1, h2⟩ := l6 w hw
    · exact x10 w h1
    · have h3 := x11.2.1 w h1
      have h4 := (List.mem_filter.mp h1).2
      cases w <;> first | exact va_Nw.use rfl h3 | (simp [ab_isN] at h4; done)
  obtain ⟨a, ha, -⟩ := x11.2.2.1 _ _ _ hs
  exact ab_makeSW x1 x3 x2 x7 l1 l2 (hw _ List.mem_cons_self) (hw _ (List.mem_cons_of_mem _ List.mem_cons_self)) ha (fun w h => hw w (List.mem_cons_of_mem _ (List.mem_cons_of_mem _ h))) (fun w h => (l6 w h).2) x11.2.2.2.2.1 x11.2.2.2.2.2.1 y3 (hl.1.trans x4.symm) d0 d3 d4 d6 x11.1 y1 y2 x12 (ab_clE l4 l5) (by omega) (by rw [hr σ τ]; omega) (by omega) (by omega)
    (fun q H1 hP hD hS => ab_threw hX hY hl hol l4 l5 d9 hP hD hS k)
/-- a handler that keeps the exception in a local and goes on -/
def ab_LC (M : ab_M) (pc E hpc : Nat) : Prop := 0 < E ∧ E < 5 ∧ ∃ (pre : List ExceptionTableEntry) (x : ExceptionTableEntry) (suf : List ExceptionTableEntry), tableOf M.2.2.2.2 = pre ++ x :: suf ∧ (∀ z ∈ pre, covers z pc = false ∨ (z.catchType ≠ 0 ∧ ∃ j, 0 < j ∧ j < 5 ∧ E ≠ j ∧ Cond.classLink M.1.cls z.catchType (ab_E j) ∈ ab_big)) ∧ covers x pc = true ∧ x.catchType ≠ 0 ∧ Cond.classLink M.1.cls x.catchType (ab_E E) ∈ ab_big ∧ Cond.castable (ab_E E) (ab_E E) ∈ ab_nest ∧ x.handlerPc = hpc
theorem st_catchG {E hpc : Nat} (hC : ab_LC M pc E hpc) (k : ∀ (p : Program) (l : Launch) (e : Env) (R : Room) (s : State) (m : MethodId) (args : Array Value) (below : List Frame) (meth : Method) (c : Code) (Q : State → Prop) (D : va_G) (dA : Nat → ClassId) (τ : Nat → Value) (A : Nat → Prop) (σ0 : Nat → Nat) (n0 Cm Sm : Nat),
    ab_X sc M d P p l e R s m args below meth c Q D dA τ A σ0 n0 Cm Sm →
    ∀ (σ : Nat → Nat) (H : Heap) (locs : List Loc) (cells slots : Nat) (lv : Array Slot) (q : Addr),
      ab_Y s D dA τ A σ0 n0 Cm Sm rc rs σ h H locs cells slots → lv_has lv M.2.2.1 (ab_l σ τ ls) → ab_okL h.length ls →
      W p l e R s m args below meth c H locs cells slots Q (F0 m hpc lv [.ref q])) : ST sc M d rc rs pc ls h E P := by
  intro p l e R s m args below meth c Q D dA τ A σ0 n0 Cm Sm hX σ H locs cells slots lv rest q ce hY hl hol h1 h2 h3
  obtain ⟨l1, l2, pre, x, suf, l3, l4, l5, l6, l7, l8, l9⟩ := hC
  obtain ⟨x1, x2, x3, x4, -, x6, x7, -, -, x10, x11, -⟩ := id hX
  refine vx_catch x7 pre x suf (by rw [x6]; exact l3) (fun z hz => ?_) l5 l6 (x10 _ l7) (va_Nw.use rfl (x11.2.1 _ l8)) h1 h2 h3 (by rw [l9]; exact k p l e R s m args below meth c Q D dA τ A σ0 n0 Cm Sm hX σ H locs cells slots lv q hY hl hol)
  rcases l4 z hz with h4 | ⟨h4, j, h5, h6, h7, h8⟩
  · exact Or.inl h4
  · exact Or.inr ⟨h4, _, x10 _ h8, x11.2.2.2.2.2.2.2.2.1 E j l2 h6 h7 l1 h5⟩
theorem st_catch {E hpc i : Nat} (hC : ab_LC M pc E hpc) (hd : decode M.2.1 hpc = .ok (.astore i, 2)) (hn : i < M.2.2.1) (hs : ab_st ls i = true) (k : SW sc M d rc rs (hpc + 2) (ls.set i none) [] h P) : ST sc M d rc rs pc ls h E P :=
  st_catchG hC fun _ _ _ _ _ _ _ _ _ _ _ _ _ _ _ _ _ _ _ hX _ _ _ _ _ _ _ hY hl hol =>
    lv_astore hX.1 hX.2.2.1 hd hl hn rfl (fun ls' hl' => k.use hX hY (ab_l_none (ab_st_ok hs) hl') (ab_okL_none hol) ab_okS_nil)
theorem st_catch_n {E hpc : Nat} {i : Fin 4} (hC : ab_LC M pc E hpc) (hd : decode M.2.1 hpc = .ok (.astore_n i, 1)) (hn : (i : Nat) < M.2.2.1) (hs : ab_st ls i = true) (k : SW sc M d rc rs (hpc + 1) (ls.set i none) [] h P) : ST sc M d rc rs pc ls h E P :=
  st_catchG hC fun _ _ _ _ _ _ _ _ _ _ _ _ _ _ _ _ _ _ _ hX _ _ _ _ _ _ _ hY hl hol =>
    lv_astore_n hX.1 hX.2.2.1 hd rfl hl hn rfl (fun ls' hl' => k.use hX hY (ab_l_none (ab_st_ok hs) hl') (ab_okL_none hol) ab_okS_nil)
/-! texts and statics of the start -/
theorem sw_ldcI {idx : Nat} {v : Int32} (hd : decode M.2.1 pc = .ok (.ldc idx, 2)) (hw : Cond.constant M.1.cls idx v ∈ ab_big) (k : SW sc M d rc rs (pc + 2) ls (.int v :: st) h P) : SW sc M d rc rs pc ls st h P := by
  intro p l e R s m args below meth c Q D dA τ A σ0 n0 Cm Sm hX σ H locs cells slots lv hY hl hol hos
  exact lv_ldc hX.1 hX.2.2.1 hX.2.2.2.2.2.2.1 (hX.2.2.2.2.2.2.2.2.2.1 _ hw) hd (k.use hX hY hl hol (ab_okS_cons trivial hos))
/-- fewer locals need be known -/
theorem sw_forget {ls' : List (Option Value)} (hf : ∀ (i : Nat) (v : Value), ls'[i]? = some (some v) → ls[i]? = some (some v)) (k : SW sc M d rc rs pc ls' st h P) : SW sc M d rc rs pc ls st h P := by
  intro p l e R s m args below meth c Q D dA τ A σ0 n0 Cm Sm hX σ H locs cells slots lv hY hl hol hos
  refine k.use hX hY ⟨hl.1, hl.2.1, fun q hq => ?_⟩ (fun v hv => ?_) hos
  · obtain ⟨u, hu, h2⟩ := ab_l_mem.mp hq
    exact hl.2.2 q (ab_l_mem.mpr ⟨u, hf _ _ hu, h2⟩)
  · obtain ⟨i, hi⟩ := List.getElem?_of_mem hv
    exact hol v (List.mem_of_getElem? (hf _ _ hi))
/-- .. by places: true where a local is forgotten -/
def ab_fg : List Bool → List (Option Value) → List (Option Value)
  | b :: bs, x :: xs => (if b = true then none else x) :: ab_fg bs xs
  | _, xs => xs
theorem ab_fg_at : ∀ (bs : List Bool) (ls : List (Option Value)) (i : Nat) (v : Value), (ab_fg bs ls)[i]? = some (some v) → ls[i]? = some (some v)
  | [], ls, i, v, h => by
    cases ls <;> exact h
  | b :: bs, [], i, v, h => h
  | b :: bs, x :: xs, 0, v, h => by
    cases b with
    | true => exact absurd h (by simp [ab_fg])
    | false => exact h
  | b :: bs, x :: xs, i + 1, v, h => by
    have h1 : (ab_fg bs xs)[i]? = some (some v) := h
    exact ab_fg_at bs xs i v h1
theorem sw_fg (bs : List Bool) {ls' : List (Option Value)} (he : ab_fg bs ls = ls') (k : SW sc M d rc rs pc ls' st h P) : SW sc M d rc rs pc ls st h P := sw_forget (fun i v hv => ab_fg_at bs ls i v (by rw [he]; exact hv)) k
theorem sw_ldc {idx t : Nat} {tx : String} (hd : decode M.2.1 pc = .ok (.ldc idx, 2)) (hs : Cond.stringRef M.1.cls idx tx ∈ lw_tbl) (ht : ab_txt[t]? = some tx) (k : SW sc M d rc rs (pc + 2) ls (.retAddr t :: st) h P) : SW sc M d rc rs pc ls st h P := by
  intro p l e R s m args below meth c Q D dA τ A σ0 n0 Cm Sm hX σ H locs cells slots lv hY hl hol hos
  obtain ⟨x1, x2, x3, x4, -, x6, x7, -, -, x10, x11, -⟩ := id hX
  obtain ⟨a, ha, h2⟩ := x11.2.2.1 _ _ _ hs
  have kw := k.use hX hY hl hol (ab_okS_cons trivial hos)
  have e : ab_v σ τ (.retAddr t) = .ref a := h2 t ht
  rw [List.map_cons, e] at kw
  exact va_ldcS x1 x3 x7 ha hd kw
theorem sw_ldcw {idx t : Nat} {tx : String} (hd : decode M.2.1 pc = .ok (.ldc_w idx, 3)) (hs : Cond.stringRef M.1.cls idx tx ∈ lw_tbl) (ht : ab_txt[t]? = some tx) (k : SW sc M d rc rs (pc + 3) ls (.retAddr t :: st) h P) : SW sc M d rc rs pc ls st h P := by
  intro p l e R s m args below meth c Q D dA τ A σ0 n0 Cm Sm hX σ H locs cells slots lv hY hl hol hos
  obtain ⟨x1, x2, x3, x4, -, x6, x7, -, -, x10, x11, -⟩ := id hX
  obtain ⟨a, ha, h2⟩ := x11.2.2.1 _ _ _ hs
  have kw := k.use hX hY hl hol (ab_okS_cons trivial hos)
  have e : ab_v σ τ (.retAddr t) = .ref a := h2 t ht
  rw [List.map_cons, e] at kw
  intro T hT X
  obtain ⟨t9, a1, b1⟩ := kw T hT X
  exact ⟨t9, X.ldcStringW x1 x7 (text := tx) (a := a) ha.1 ha.2 (g := F0 m pc lv (st.map (ab_v σ τ))) rfl (by rw [x3]; exact hd) t9 a1, b1⟩
theorem sw_compact {idx : Nat} (hd : decode M.2.1 pc = .ok (.getstatic idx, 3)) (hw : Cond.fieldLink M.1.cls idx "java/lang/String" "COMPACT_STRINGS" "Z" ∈ ab_big) (k : SW sc M d rc rs (pc + 3) ls (.int 1 :: st) h P) : SW sc M d rc rs pc ls st h P := by
  intro p l e R s m args below meth c Q D dA τ A σ0 n0 Cm Sm hX σ H locs cells slots lv hY hl hol hos
  obtain ⟨x1, x2, x3, x4, -, x6, x7, -, -, x10, x11, -⟩ := id hX
  exact va_gets x1 x3 x11.2.2.2.2.2.2.1 hY.2.2.1 x7 (x10 _ hw) (fun _ q => q) hd (k.use hX hY hl hol (ab_okS_cons trivial hos))
theorem sw_sioobe {idx : Nat} (hd : decode M.2.1 pc = .ok (.getstatic idx, 3)) (hw : Cond.fieldLink M.1.cls idx ab_siC "SIOOBE_FORMATTER" "Ljava/util/function/BiFunction;" ∈ ab_big) (k : SW sc M d rc rs (pc + 3) ls (.retAddr 50 :: st) h P) : SW sc M d rc rs pc ls st h P := by
  intro p l e R s m args below meth c Q D dA τ A σ0 n0 Cm Sm hX σ H locs cells slots lv hY hl hol hos
  obtain ⟨x1, x2, x3, x4, -, x6, x7, -, -, x10, x11, -⟩ := id hX
  exact va_gets x1 x3 x11.2.2.2.2.2.2.2.1.1 hY.2.2.1 x7 (x10 _ hw) (fun _ q => q) hd (k.use hX hY hl hol (ab_okS_cons trivial hos))
theorem sw_value {idx t : Nat} (hd : decode M.2.1 pc = .ok (.getfield idx, 3)) (hw : Cond.fieldLink M.1.cls idx "java/lang/String" "value" "[B" ∈ ab_big) (ht : t < 6) (k : SW sc M d rc rs (pc + 3) ls (.retAddr (10 + t) :: st) h P) : SW sc M d rc rs pc ls (.retAddr t :: st) h P := by
  intro p l e R s m args below meth c Q D dA τ A σ0 n0 Cm Sm hX σ H locs cells slots lv hY hl hol hos
  obtain ⟨x1, x2, x3, x4, -, x6, x7, -, -, x10, x11, -⟩ := id hX
  obtain ⟨adK, adV, h1, h2⟩ := x11.2.2.2.1
  have kw := k.use hX hY hl hol (ab_okS_cons trivial (ab_okS_tl hos))
  have e1 : ab_v σ τ (.retAddr t) = .ref (adK t) := (h2 t ht).1
  have e2 : ab_v σ τ (.retAddr (10 + t)) = .ref (adV t) := (h2 t ht).2
  rw [List.map_cons, e2] at kw
  rw [List.map_cons, e1]
  exact vk_getf x1 x3 (h1.1 t ht).2.2.1 hY.2.2.1 x7 (x10 _ hw) (fun _ q => q) hd kw
theorem sw_coder {idx t : Nat} (hd : decode M.2.1 pc = .ok (.getfield idx, 3)) (hw : Cond.fieldLink M.1.cls idx "java/lang/String" "coder" "B" ∈ ab_big) (ht : t < 6) (k : SW sc M d rc rs (pc + 3) ls (.int 0 :: st) h P) : SW sc M d rc rs pc ls (.retAddr t :: st) h P := by
  intro p l e R s m args below meth c Q D dA τ A σ0 n0 Cm Sm hX σ H locs cells slots lv hY hl hol hos
  obtain ⟨x1, x2, x3, x4, -, x6, x7, -, -, x10, x11, -⟩ := id hX
  obtain ⟨adK, adV, h1, h2⟩ := x11.2.2.2.1
  have kw := k.use hX hY hl hol (ab_okS_cons trivial (ab_okS_tl hos))
  have e1 : ab_v σ τ (.retAddr t) = .ref (adK t) := (h2 t ht).1
  rw [List.map_cons, e1]
  exact vk_getf x1 x3 (h1.1 t ht).2.1 hY.2.2.1 x7 (x10 _ hw) (fun _ q => q) hd kw
theorem sw_tlen {t : Nat} (hd : decode M.2.1 pc = .ok (.arraylength, 1)) (ht : t < 6) (k : SW sc M d rc rs (pc + 1) ls (.int (Int32.ofNat (ab_len.getD t 0)) :: st) h P) : SW sc M d rc rs pc ls (.retAddr (10 + t) :: st) h P := by
  intro p l e R s m args below meth c Q D dA τ A σ0 n0 Cm Sm hX σ H locs cells slots lv hY hl hol hos
  obtain ⟨x1, x2, x3, x4, -, x6, x7, -, -, x10, x11, -⟩ := id hX
  obtain ⟨adK, adV, h1, h2⟩ := x11.2.2.2.1
  have kw := k.use hX hY hl hol (ab_okS_cons trivial (ab_okS_tl hos))
  have e2 : ab_v σ τ (.retAddr (10 + t)) = .ref (adV t) := (h2 t ht).2
  rw [List.map_cons, e2]
  exact va_tlen x1 x3 (h1.1 t ht).2.2.2 hY.2.2.1 rfl hd kw
theorem sw_tbald {t : Nat} {i x : Int32} (hd : decode M.2.1 pc = .ok (.baload, 1)) (ht : t < 6) (h0 : ¬ i < 0) (hi : i.toNatClampNeg < ab_len.getD t 0) (hx : (ab_byt.getD t []).getD i.toNatClampNeg 0 = x) (k : SW sc M d rc rs (pc + 1) ls (.int x :: st) h P) : SW sc M d rc rs pc ls (.int i :: .retAddr (10 + t) :: st) h P := by
  intro p l e R s m args below meth c Q D dA τ A σ0 n0 Cm Sm hX σ H locs cells slots lv hY hl hol hos
  obtain ⟨x1, x2, x3, x4, -, x6, x7, -, -, x10, x11, -⟩ := id hX
  obtain ⟨adK, adV, h1, h2⟩ := x11.2.2.2.1
  have kw := k.use hX hY hl hol (ab_okS_cons trivial (ab_okS_tl (ab_okS_tl hos)))
  have e2 : ab_v σ τ (.retAddr (10 + t)) = .ref (adV t) := (h2 t ht).2
  rw [List.map_cons, List.map_cons, e2]
  exact va_tb x1 x3 (h1.1 t ht).2.2.2 hY.2.2.1 (ab_in h0 hi) (v := .int x) (by rw [hx]) hd kw
/-- a method of a text -/
theorem sw_callT {N : ab_M} {d1 mc ms : Nat} {P1 : ab_O → ab_H → Prop} {idx n t : Nat} {As : List Value} (hd : decode M.2.1 pc = .ok (.invokevirtual idx, 3)) (hL : ab_LV M.1.cls idx N n) (hN : N.1.cls = "java/lang/String") (ht : t < 6) (hm : MS N d1 mc ms (.retAddr t :: As) h P1) (hd1 : d1 + 1 ≤ d) (hn : As.length = n) {st1 : List Value} (hst : st1 = As.reverse ++ .retAddr t :: st) (hc : (st.map fun v => v.category).sum ≤ 8) (hr : ∀ σ τ, (st.map (ab_v σ τ)).map (fun v => v.category) = st.map fun v => v.category) (ha : ∀ σ τ v, v ∈ As → (ab_v σ τ v).category = 1)
    (kk : ∀ v h1, P1 (.inl v) h1 → SW sc M d rc rs (pc + 3) ls (v.toList ++ st) h1 P) (kx : ∀ E h1, P1 (.inr E) h1 → ST sc M d rc rs pc ls h1 E P) : SW sc M d (rc + mc) (rs + ms) pc ls st1 h P := by
  intro p l e R s m args below meth c Q D dA τ A σ0 n0 Cm Sm hX σ H locs cells slots lv hY hl hol hos
  subst hst
  obtain ⟨adK, adV, hk1, hk2⟩ := hX.2.2.2.2.2.2.2.2.2.2.1.2.2.2.1
  have e1 : ab_v σ τ (.retAddr t) = .ref (adK t) := (hk2 t ht).1
  have hcat : ∀ v ∈ (.retAddr t :: As), (ab_v σ τ v).category = 1 := fun v hv => by
    rcases List.mem_cons.mp hv with rfl | hv
    · rw [e1]; rfl
    · exact ha σ τ v hv
  have hoA : ab_okS h.length (.retAddr t :: As) := fun v hv => by
    rcases List.mem_cons.mp hv with rfl | hv
    · trivial
    · exact hos v (List.mem_append_left _ (List.mem_reverse.mpr hv))
  have hoS : ab_okS h.length st := fun v hv => hos v (List.mem_append_right _ (List.mem_cons_of_mem _ hv))
  obtain ⟨y1, y2, y3, y4, y5, y6, y7, y8⟩ := id hY
  have hM := hm l hX.2.1 D dA τ σ H.size y4 hoA hcat
  rw [List.map_cons, e1] at hM
  obtain ⟨x1, -, x3, x4, -, -, x7, -, -, x10, x11, x12, -, -, x15, x16, -, -⟩ := id hX
  have hst2 : (F0 m pc lv ((As.reverse ++ .retAddr t :: st).map (ab_v σ τ))).stack = (As.map (ab_v σ τ)).reverse ++ .ref (adK t) :: st.map (ab_v σ τ) := by
    show (As.reverse ++ .retAddr t :: st).map (ab_v σ τ) = _
    rw [List.map_append, List.map_reverse, List.map_cons, e1]
  have hF : ∀ q, va_A (ab_w dA σ τ h) H.size q → A q := fun q hq => by
    rcases hq with ⟨k, e, hk⟩ | hq
    · exact y2.2 k (q, e) hk
    · exact x12 q (Nat.le_trans y3.1 hq)
  have hrecv : ∃ cell : Cell, H[adK t]? = some cell ∧ cell.vm.isStatics = false ∧ s.vm.findClass N.1.cls = some cell.cls := by
    rw [hN]; exact vk_recv hk1 ht y3
  have hpre : PreV s H N.1.cls (adK t) (va_Pc (.ref (adK t) :: As.map (ab_v σ τ)) (ab_B D dA τ σ h H.size)) (As.map (ab_v σ τ)) := ⟨ab_blind, hrecv, fun U hU hW => ⟨rfl, by rw [hU], x11.call y3 hU hW hF, by rw [hU]; exact y1, y2.weaken (fun _ _ _ _ => trivial)⟩⟩
  rcases ab_callB (mc := mc) (ms := ms) hX hL.1 hd1 with cb | ⟨host, cb⟩
  · exact ab_back hX hY hl hol hoS (vx_runV (C := N.1.cls) ⟨x1, x3, x4, x7, x10⟩ hM ⟨cb, x10 _ hL.2.1, x10 _ hL.2.2⟩ hpre rfl (by rw [List.length_map]; exact hn) hl.1 hst2 (ab_sumcat (hr σ τ) hc) hd ⟨by omega, by omega⟩) kk kx
  · exact ab_back hX hY hl hol hoS (vx_runVN (C := N.1.cls) ⟨x1, x3, x4, x7, x10⟩ hM ⟨cb, x10 _ hL.2.1, x10 _ hL.2.2⟩ hpre rfl (by rw [List.length_map]; exact hn) hl.1 hst2 (ab_sumcat (hr σ τ) hc) hd ⟨by omega, by omega⟩) kk kx
/-- a static method with handlers -/
def ab_LX (own : String) (idx : Nat) (N : ab_M) (n : Nat) : Prop := (Cond.methodLink own idx N.1 ∈ ab_big) ∧ Cond.codeWith N.1 N.2.1 N.2.2.1 N.2.2.2.1 N.2.2.2.2 ∈ ab_big ∧ ab_cw N = Cond.codeWith N.1 N.2.1 N.2.2.1 N.2.2.2.1 N.2.2.2.2 ∧ Cond.initialized N.1.cls ∈ ab_big ∧ (N.1.cls ≠ "java/lang/invoke/MethodHandle" ∧ N.1.cls ≠ "java/lang/invoke/VarHandle") ∧ (parseMethodDescriptor N.1.desc).map (fun d => d.parameters.length) = some n ∧ N.2.2.1 ≤ 21 ∧ Cond.static N.1 ∈ ab_big
theorem sw_callX {N : ab_M} {d1 mc ms : Nat} {P1 : ab_O → ab_H → Prop} {idx n : Nat} {As : List Value} (hd : decode M.2.1 pc = .ok (.invokestatic idx, 3)) (hL : ab_LX M.1.cls idx N n) (hm : MS N d1 mc ms As h P1) (hd1 : d1 + 1 ≤ d) (hn : As.length = n) {st1 : List Value} (hst : st1 = As.reverse ++ st) (hc : (st.map fun v => v.category).sum ≤ 8) (hr : ∀ σ τ, (st.map (ab_v σ τ)).map (fun v => v.category) = st.map fun v => v.category) (ha : ∀ σ τ v, v ∈ As → (ab_v σ τ v).category = 1)
    (kk : ∀ v h1, P1 (.inl v) h1 → SW sc M d rc rs (pc + 3) ls (v.toList ++ st) h1 P) (kx : ∀ E h1, P1 (.inr E) h1 → ST sc M d rc rs pc ls h1 E P) : SW sc M d (rc + mc) (rs + ms) pc ls st1 h P := by
  intro p l e R s m args below meth c Q D dA τ A σ0 n0 Cm Sm hX σ H locs cells slots lv hY hl hol hos
  subst hst
  have hoA : ab_okS h.length As := fun v hv => hos v (List.mem_append_left _ (List.mem_reverse.mpr hv))
  have hoS : ab_okS h.length st := fun v hv => hos v (List.mem_append_right _ hv)
  obtain ⟨y1, y2, y3, y4, y5, y6, y7, y8⟩ := id hY
  have hM := hm l hX.2.1 D dA τ σ H.size y4 hoA (ha σ τ)
  obtain ⟨x1, -, x3, x4, -, -, x7, -, -, x10, x11, x12, x13, x14, x15, x16, -, -⟩ := id hX
  have hst2 : (F0 m pc lv ((As.reverse ++ st).map (ab_v σ τ))).stack = (As.map (ab_v σ τ)).reverse ++ st.map (ab_v σ τ) := by
    show (As.reverse ++ st).map (ab_v σ τ) = _
    rw [List.map_append, List.map_reverse]
  have hF : ∀ q, va_A (ab_w dA σ τ h) H.size q → A q := fun q hq => by
    rcases hq with ⟨k, e, hk⟩ | hq
    · exact y2.2 k (q, e) hk
    · exact x12 q (Nat.le_trans y3.1 hq)
  have hpre : PreS s H (va_Pc (As.map (ab_v σ τ)) (ab_B D dA τ σ h H.size)) (As.map (ab_v σ τ)) := ⟨ab_blind, fun U hU hW => ⟨rfl, by rw [hU], x11.call y3 hU hW hF, by rw [hU]; exact y1, y2.weaken (fun _ _ _ _ => trivial)⟩⟩
  obtain ⟨l1, l2, l3, l4, l5, l6, l7, l8⟩ := hL
  have h5 : ∀ w ∈ ab_ws N, ∀ (a' : Array Value) (U : State), s.WarmedH U.vm → w.before a' U = true := fun w hw => by
    rcases List.mem_cons.mp hw with rfl | hw
    · rw [l3]; exact ab_good x10 _ l2
    · exact ab_good x10 w hw
  have h8 : ∀ sig, parseMethodDescriptor N.1.desc = some sig → n = sig.parameters.length := fun sig hs => by
    rw [hs] at l6
    exact (Option.some.inj l6).symm
  have cb : vx_CSW R s args M.1.cls idx N.1 N.2.1 N.2.2.1 N.2.2.2.1 N.2.2.2.2 (ab_ws N) (ab_rm d1 mc ms) mc ms n := ⟨⟨rfl, rfl, by show d1 + 10 + 1 ≤ _; omega, by show 8 + (N.2.2.1 + 11) + (40 * d1 + 220) ≤ _; omega, h5, by rw [← l3]; exact List.mem_cons_self⟩, x10 _ l2, x10 _ l4, l5, h8, x10 _ l1, x10 _ l8⟩
  exact ab_back hX hY hl hol hoS (vx_runSX ⟨x1, x3, x4, x7, x10⟩ hM cb hpre rfl (by rw [List.length_map]; exact hn) hl.1 hst2 (ab_sumcat (hr σ τ) hc) hd ⟨by omega, by omega⟩) kk kx
/-- System.arraycopy from a row of ints into another one -/
def ab_cpyL (f g : List Value) (sp dp n : Nat) : List Value := (List.range g.length).map fun j => if dp ≤ j ∧ j < dp + n then f.getD (sp + (j - dp)) .null else g.getD j .null
def ab_LA (own : String) (idx : Nat) : Prop := Cond.methodLink own idx arraycopyName ∈ ab_big ∧ Cond.native arraycopyName ∈ ab_big ∧ Cond.static arraycopyName ∈ ab_big ∧ Cond.initialized "java/lang/System" ∈ ab_big
theorem ab_cpyL_i {f g : List Value} {sp dp n : Nat} (hn : dp + n ≤ g.length) : (fun j => ab_i ((ab_cpyL f g sp dp n).getD j .null)) = va_cpy (fun j => ab_i (f.getD j .null)) (fun j => ab_i (g.getD j .null)) sp dp n := by
  funext j
  unfold ab_cpyL va_cpy
  rw [List.getD_eq_getElem?_getD, List.getElem?_map]
  by_cases hj : j < g.length
  · rw [List.getElem?_range hj]
    show ab_i (if dp ≤ j ∧ j < dp + n then f.getD (sp + (j - dp)) .null else g.getD j .null) = _
    split <;> rfl
  · have h1 : (List.range g.length)[j]? = none := List.getElem?_eq_none (by rw [List.length_range]; omega)
    rw [h1, if_neg (by omega)]
    show ab_i .null = ab_i (g.getD j .null)
    rw [List.getD_eq_getElem?_getD, List.getElem?_eq_none (by omega)]
    rfl
theorem sw_copy {idx a b : Nat} {f g : List Value} {sp dp n : Int32} (hd : decode M.2.1 pc = .ok (.invokestatic idx, 3)) (hL : ab_LA M.1.cls idx) (ha : h[a]? = some (100, f)) (hb : h[b]? = some (100, g)) (hfi : ∀ v ∈ f, ∃ x, v = .int x) (hgi : ∀ v ∈ g, ∃ x, v = .int x) (h1 : ¬ sp < 0) (h2 : ¬ dp < 0) (h3 : ¬ n < 0) (h4 : sp.toNatClampNeg + n.toNatClampNeg ≤ f.length) (h5 : dp.toNatClampNeg + n.toNatClampNeg ≤ g.length) (hc : (st.map fun v => v.category).sum ≤ 8) (hr : ∀ σ τ, (st.map (ab_v σ τ)).map (fun v => v.category) = st.map fun v => v.category)
    (k : SW sc M d rc rs (pc + 3) ls st (h.set b (100, ab_cpyL f g sp.toNatClampNeg dp.toNatClampNeg n.toNatClampNeg)) P) : SW sc M d rc rs pc ls (.int n :: .int dp :: .ref b :: .int sp :: .ref a :: st) h P := by
  intro p l e R s m args below meth c Q D dA τ A σ0 n0 Cm Sm hX σ H locs cells slots lv hY hl hol hos
  obtain ⟨x1, x2, x3, x4, -, x6, x7, -, -, x10, x11, x12, x13, x14, -⟩ := id hX
  obtain ⟨y1, y2, y3, y4, y5, y6, y7, y8⟩ := id hY
  have hok : ab_okS h.length (ab_cpyL f g sp.toNatClampNeg dp.toNatClampNeg n.toNatClampNeg) := fun v hv => by
    obtain ⟨j, -, rfl⟩ := List.mem_map.mp hv
    have key : ∀ (w : List Value), (∀ v ∈ w, ∃ x, v = Value.int x) → ∀ i, ab_ok h.length (w.getD i .null) := fun w hw i => by
      rw [List.getD_eq_getElem?_getD]
      cases hi : w[i]? with
      | none => trivial
      | some u =>
        obtain ⟨x, hx⟩ := hw u (List.mem_of_getElem? hi)
        show ab_ok _ u
        rw [hx]; trivial
    show ab_ok _ (if _ then _ else _)
    split
    · exact key f hfi _
    · exact key g hgi _
  have hlen : (h.set b (100, ab_cpyL f g sp.toNatClampNeg dp.toNatClampNeg n.toNatClampNeg)).length = h.length := List.length_set
  have hll : (ab_cpyL f g sp.toNatClampNeg dp.toNatClampNeg n.toNatClampNeg).length = g.length := by unfold ab_cpyL; rw [List.length_map, List.length_range]
  exact va_copyi x1 x3 (x4.trans hl.1.symm) x7 (x10 _ hL.1) (x10 _ hL.2.1) (x10 _ hL.2.2.1) (x10 _ hL.2.2.2) x11.1 y1 y2 y3 a b 0 0 (ab_w_at ha) (ab_w_at hb) rfl rfl rfl h1 h2 h3 h4 h5 (fun i hi => rfl) (by omega) (by
      rw [hr σ τ]
      have : nativeFrameWords "java/lang/System" "arraycopy" 5 + 11 ≤ 200 := by decide +kernel
      omega) hd (fun H1 locs1 hP hD hS => k.use hX (hY.upd (c := (100, ab_cpyL f g sp.toNatClampNeg dp.toNatClampNeg n.toNatClampNeg)) hok (by rw [ab_e_i, ab_cpyL_i h5, hll]) hP hD hS) hl (by rw [hlen]; exact hol) (by rw [hlen]; exact ab_okS_tl (ab_okS_tl (ab_okS_tl (ab_okS_tl (ab_okS_tl hos))))))
end AB4
