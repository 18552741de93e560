/-! a grid is made: rows of ints under one array of them, cell after cell -/
section
variable {E : CtlPost} {e : Env} {dd : Bool} {acts : List Action} {T : State} {cA cI cc : ClassId} {N K : Nat}
def grd_o (cA : ClassId) (N h0 i : Nat) : Cell := arrV cA N (fun j => if j < i then .ref (h0 + 1 + j) else .null)
def grd_i (cI : ClassId) (K : Nat) : Cell := arrV cI K (fun _ => .int 0)
def grd (cA cI : ClassId) (N K : Nat) (T : State) : Nat → State
  | 0 => T.pushCell (grd_o cA N T.heap.size 0)
  | i + 1 => ((grd cA cI N K T i).pushCell (grd_i cI K)).setCell T.heap.size (grd_o cA N T.heap.size (i + 1))
theorem grd_o0 {h0 : Nat} : grd_o cA N h0 0 = arrV cA N (fun _ => .null) := congrArg (arrV cA N) (funext fun j => if_neg (Nat.not_lt_zero j))
theorem grd_os {h0 i : Nat} : (grd_o cA N h0 i).setSlot i (.ref (h0 + 1 + i)) = grd_o cA N h0 (i + 1) := by
  unfold grd_o
  rw [arrV_store]
  refine congrArg (arrV cA N) (funext fun j => ?_)
  unfold updV
  by_cases h : j = i
  · rw [if_pos h, if_pos (by omega), h]
  · rw [if_neg h]
    show (if j < i then Value.ref (h0 + 1 + j) else Value.null) = _
    by_cases h2 : j < i
    · rw [if_pos h2, if_pos (by omega)]
    · rw [if_neg h2, if_neg (by omega)]
theorem grd_ok : ∀ i, ((grd cA cI N K T i).heap.size = T.heap.size + 1 + i ∧ (grd cA cI N K T i).vm = T.vm ∧ (grd cA cI N K T i).slotsUsed = T.slotsUsed + N + i * K) ∧ (grd cA cI N K T i).heap[T.heap.size]? = some (grd_o cA N T.heap.size i) ∧ (∀ a, a < T.heap.size → (grd cA cI N K T i).heap[a]? = T.heap[a]?) ∧ ∀ j, j < i → (grd cA cI N K T i).heap[T.heap.size + 1 + j]? = some (grd_i cI K)
  | 0 => ⟨⟨by simp [grd], rfl, by simp [grd, grd_o, arrV_size]⟩, by simp [grd], fun a ha => State.heap_pushCell_of_lt _ _ ha, fun j hj => absurd hj (Nat.not_lt_zero j)⟩
  | i + 1 => by
    obtain ⟨⟨a1, a2, a3⟩, a4, a5, a6⟩ := grd_ok i
    have l0 : T.heap.size < (grd cA cI N K T i).heap.size := by omega
    have b4 : ((grd cA cI N K T i).pushCell (grd_i cI K)).heap[T.heap.size]? = some (grd_o cA N T.heap.size i) := by rw [State.heap_pushCell_of_lt (h := l0)]; exact a4
    refine ⟨⟨?_, ?_, ?_⟩, State.heap_setCell_self b4, fun a ha => ?_, fun j hj => ?_⟩
    · simp [grd, State.setCell, a1]; omega
    · simp [grd, a2]
    · simp [grd, a3, grd_i, arrV_size, Nat.succ_mul]; omega
    · show (((grd cA cI N K T i).pushCell (grd_i cI K)).setCell T.heap.size _).heap[a]? = _
      rw [State.heap_setCell_other (Nat.ne_of_gt ha), State.heap_pushCell_of_lt (h := Nat.lt_trans ha l0)]
      exact a5 a ha
    · show (((grd cA cI N K T i).pushCell (grd_i cI K)).setCell T.heap.size _).heap[T.heap.size + 1 + j]? = _
      rw [State.heap_setCell_other (show T.heap.size ≠ T.heap.size + 1 + j by omega)]
      by_cases h : j = i
      · rw [h, ← a1]
        exact State.heap_pushCell_size _ _
      · have lj : T.heap.size + 1 + j < (grd cA cI N K T i).heap.size := by omega
        rw [State.heap_pushCell_of_lt (h := lj)]
        exact a6 j (by omega)
theorem grd_top (f : JFrame) : ∀ i, grd cA cI N K (T.setTop f) i = (grd cA cI N K T i).setTop f
  | 0 => rfl
  | i + 1 => by simp only [grd, grd_top f i, State.heap_setTop, State.pushCell_setTop, State.setCell_setTop]
/-- an array of len values x is made -/
theorem mn_new {k1 : Class} {ty : FieldType} {len : Nat} {x : Value} {Q : Addr → Pre} (h1 : T.vm.classes[cA]? = some k1) (h2 : k1.kind = .array cc ty) (h3 : ¬ len > e.platform.arrayLengthLimit) (h4 : ¬ len * componentBytes ty > e.platform.maxHeapBytes) (h5 : fits ty x = true) (h6 : x.isDefault = true) (h7 : T.heap.size < e.platform.maxCells) (h8 : T.slotsUsed + len ≤ e.platform.maxSlots) (q : Q T.heap.size dd acts (T.pushCell (arrV cA len (fun _ => x)))) : wp (Jvm.newArray cA len x) Q E e dd acts T := by
  have fit : ∀ i v, (Array.replicate len x)[i]? = some v → T.fitsSlot cA .none i v = true := by
    intro i v hv
    have e1 : v = x := by
      have := Array.mem_of_getElem? hv
      exact Array.eq_of_mem_replicate this
    subst e1
    simp [State.fitsSlot, State.slotType?, h1, h2, h5]
  have act : allocActs (Array.replicate len x) T.heap.size acts = acts := if_pos (Array.all_eq_true.mpr fun i hi => by rw [Array.getElem_replicate]; exact h6)
  have i3 : (e.platform.arrayLengthLimit < len) = False := eq_false h3
  have i4 : (e.platform.maxHeapBytes < len * componentBytes ty) = False := eq_false h4
  have i5 : (e.platform.maxSlots < len) = False := eq_false (by omega)
  rw [← arrV_new] at q
  simp [Jvm.newArray, Jvm.arrayFits, h1, h2, i3, i4, i5, act, h7, h8]
  exact ⟨fit, q⟩
/-- one row -/
theorem mn_row {kI : Class} {k : Int32} {Q : Addr → Pre} (h1 : T.vm.classes[cI]? = some kI) (h2 : kI.kind = .array cc .int) (hk : ¬ k < 0) (hK : k.toNatClampNeg = K) (h3 : ¬ K > e.platform.arrayLengthLimit) (h4 : ¬ K * 4 > e.platform.maxHeapBytes) (h7 : T.heap.size < e.platform.maxCells) (h8 : T.slotsUsed + K ≤ e.platform.maxSlots) (q : Q T.heap.size dd acts (T.pushCell (grd_i cI K))) : wp (multianewarray.make cI [k]) Q E e dd acts T := by
  rw [multianewarray.make]
  simp only [wp_bind', W.ite, hk, if_false, wp_pure', W.theClass]
  refine ⟨kI, h1, ?_⟩
  rw [h2]
  show wp (Jvm.newArray cI k.toNatClampNeg (.int 0)) Q E e dd acts T
  rw [hK]
  exact mn_new h1 h2 h3 h4 rfl rfl h7 h8 q
/-- a loop that leads from row to row -/
theorem mn_run {f : Nat → PUnit → Sem (ForInStep PUnit)} {Q : PUnit → Pre} (step : ∀ i, i < N → ∀ d' acts' (Q' : ForInStep PUnit → Pre), (∀ d2 acts2, Q' (.yield PUnit.unit) d2 acts2 (grd cA cI N K T (i + 1))) → wp (f i PUnit.unit) Q' E e d' acts' (grd cA cI N K T i)) (q : ∀ d' acts', Q PUnit.unit d' acts' (grd cA cI N K T N)) : ∀ j i, i + j = N → ∀ d' acts', wp (forIn (List.range' i j 1) PUnit.unit f) Q E e d' acts' (grd cA cI N K T i)
  | 0, i, h, d', acts' => by
    have e1 : i = N := h
    rw [e1, show List.range' N 0 1 = [] from rfl, List.forIn_nil, wp_pure']
    exact q d' acts'
  | j + 1, i, h, d', acts' => by
    rw [List.range'_succ, List.forIn_cons, wp_bind']
    exact step i (by omega) d' acts' _ (fun d2 acts2 => mn_run step q j (i + 1) (by omega) d2 acts2)
/-- all of it -/
theorem mn_grid {kA kI : Class} {n k : Int32} {Q : Addr → Pre} (h1 : T.vm.classes[cA]? = some kA) (h2 : kA.kind = .array cI (.array .int)) (g1 : T.vm.classes[cI]? = some kI) (g2 : kI.kind = .array cc .int) (hn : ¬ n < 0) (hN : n.toNatClampNeg = N) (hk : ¬ k < 0) (hK : k.toNatClampNeg = K) (l1 : ¬ N > e.platform.arrayLengthLimit) (l2 : ¬ N * 4 > e.platform.maxHeapBytes) (l3 : ¬ K > e.platform.arrayLengthLimit) (l4 : ¬ K * 4 > e.platform.maxHeapBytes) (l5 : T.heap.size + 1 + N ≤ e.platform.maxCells) (l6 : T.slotsUsed + N + N * K ≤ e.platform.maxSlots) (q : ∀ d' acts', Q T.heap.size d' acts' (grd cA cI N K T N)) : wp (multianewarray.make cA [n, k]) Q E e dd acts T := by
  have nobad : ([k].find? (· < 0)) = none := by simp [hk]
  rw [multianewarray.make]
  simp only [wp_bind', W.ite, hn, if_false, wp_pure', W.theClass]
  refine ⟨kA, h1, ?_⟩
  rw [h2]
  simp only [wp_bind', hN]
  refine mn_new h1 h2 l1 l2 rfl rfl (by omega) (by have := Nat.zero_le (N * K); omega) ?_
  simp only [nobad]
  rw [ite_self, wp_bind', Std.Legacy.Range.forIn_eq_forIn_range', ← grd_o0 (h0 := T.heap.size)]
  rw [show ([:N] : Std.Legacy.Range).size = N by simp [Std.Legacy.Range.size]]
  refine mn_run (T := T) (fun i hi d' acts' Q' nx => ?_) (fun d' acts' => by rw [wp_pure']; exact q d' acts') N 0 (Nat.zero_add N) _ _
  obtain ⟨⟨a1, a2, a3⟩, a4, -⟩ := grd_ok (cA := cA) (cI := cI) (N := N) (K := K) (T := T) i
  have room : i * K + K ≤ N * K := (Nat.succ_mul i K) ▸ Nat.mul_le_mul_right K hi
  have l0 : T.heap.size < (grd cA cI N K T i).heap.size := by omega
  rw [wp_bind']
  refine mn_row (by rw [a2]; exact g1) g2 hk hK l3 l4 (by rw [a1]; omega) (by rw [a3]; omega) ?_
  simp only [wp_bind', W.writeLoc, wp_pure']
  refine ⟨grd_o cA N T.heap.size i, by rw [State.heap_pushCell_of_lt (h := l0)]; exact a4, (by intro z; cases z), by show i < (arrV _ _ _).slots.size; rw [arrV_size]; exact hi, ?_, ?_⟩
  · show State.fitsSlot _ cA .none i _ = true
    simp [State.fitsSlot, State.slotType?, a2, h1, h2, fits]
  · rw [a1, grd_os]
    exact nx _ _
end
section
variable {p : Program} {l : Launch} {e : Env} {R : Room} {s : State} {m : MethodId} {args : Array Value} {below : List Frame} {meth : Method} {c : Code} {T : State} {locs : List Loc} {cells slots : Nat} {cA cI cc : ClassId} {N K : Nat}
theorem grd_X (X : Stand p l e R s m args below meth c T locs cells slots) : ∀ i, ∃ locs', (∀ q ∈ locs', q ∈ locs ∨ q.base = T.heap.size) ∧ Stand p l e R s m args below meth c (grd cA cI N K T i) locs' (cells + 1 + i) (slots + N + i * K)
  | 0 => by
    have h := X.pushed (grd_o cA N T.heap.size 0)
    rw [show (grd_o cA N T.heap.size 0).slots.size = N from arrV_size _ _ _] at h
    exact ⟨locs, fun q hq => Or.inl hq, by rw [Nat.zero_mul]; exact h⟩
  | i + 1 => by
    obtain ⟨locs', hl, Xi⟩ := grd_X X i
    obtain ⟨⟨a1, a2, a3⟩, a4, -⟩ := grd_ok (cA := cA) (cI := cI) (N := N) (K := K) (T := T) i
    have l0 : T.heap.size < (grd cA cI N K T i).heap.size := by omega
    have h := (Xi.pushed (grd_i cI K)).stored (a := T.heap.size) (cell := grd_o cA N T.heap.size i) (by rw [State.heap_pushCell_of_lt (h := l0)]; exact a4) i (.ref (T.heap.size + 1 + i))
    rw [show (grd_i cI K).slots.size = K from arrV_size _ _ _, grd_os] at h
    refine ⟨locs' ++ [⟨T.heap.size, i⟩], fun q hq => ?_, ?_⟩
    · rcases List.mem_append.mp hq with h1 | h1
      · exact hl q h1
      · rw [List.mem_singleton.mp h1]; exact Or.inr rfl
    · rw [show slots + N + (i + 1) * K = slots + N + i * K + K by rw [Nat.succ_mul]; omega]
      exact h
theorem mn_step (X : Stand p l e R s m args below meth c T locs cells slots) (hexec : p.tables.exec = Jvm.exec) {own : String} {idx : Nat} (hown : s.vm.findClass own = some m.cls) (hcl : (Cond.classLink own idx "[[I").before args s = true) {kA kI : Class} (hA : s.vm.findClass "[[I" = some cA) (h1 : s.vm.classes[cA]? = some kA) (h2 : kA.kind = .array cI (.array .int)) (g1 : s.vm.classes[cI]? = some kI) (g2 : kI.kind = .array cc .int) {g : JFrame} (hg : g.method = m) (hd : decode c.code g.pc = .ok (.multianewarray idx 2, 4)) {n k : Int32} {rest : List Value} (hst : g.stack = .int k :: .int n :: rest) (hn : ¬ n < 0) (hN : n.toNatClampNeg = N) (hk : ¬ k < 0) (hK : k.toNatClampNeg = K) (hb1 : N ≤ 1000) (hb2 : K ≤ 1000) (hcells : cells + (1 + N) ≤ R.cells) (hslots : slots + (N + N * K) ≤ R.slots) :
    ∃ vm1 locs', (∀ q ∈ locs', q ∈ locs ∨ q.base = T.heap.size) ∧ Stand p l e R s m args below meth c (grd cA cI N K (T.setVm vm1) N) locs' (cells + 1 + N) (slots + N + N * K) ∧ ∀ target, Steps p.tables e below ((grd cA cI N K (T.setVm vm1) N).setTop { g with pc := g.pc + 4, stack := .ref T.heap.size :: rest }) target → Steps p.tables e below (T.setTop g) target := by
  subst hg
  obtain ⟨c0, hf0, hl0⟩ := Cond.classLink_spec hown hcl e.platform (by rw [X.admits.platform])
  cases hA.symm.trans hf0
  obtain ⟨hg1, hw1, -⟩ := State.classEntry (e := e) X.warmed hl0
  generalize T.vm.noted g.method.cls idx (.cls cA) = vm1 at hg1 hw1
  obtain ⟨kA', hk1, he1⟩ := hw1.alike.2.2 _ _ h1
  obtain ⟨kI', hk2, he2⟩ := hw1.alike.2.2 _ _ g1
  have X1 := X.noted hw1
  obtain ⟨r1, r2⟩ := X.roomAbove hcells hslots
  obtain ⟨locs', hl, XF⟩ := grd_X (cA := cA) (cI := cI) (N := N) (K := K) X1 N
  refine ⟨vm1, locs', hl, XF, fun target hrest => ?_⟩
  have l1 : ∀ j, j ≤ 1000 → ¬ j > e.platform.arrayLengthLimit := fun j hj => by rw [Launch.admits_arrayLengthLimit X.admits]; omega
  have l2 : ∀ j, j ≤ 1000 → ¬ j * 4 > e.platform.maxHeapBytes := fun j hj => by rw [Launch.admits_maxHeapBytes X.admits]; omega
  jvm_step X.here [hexec, hd]
  simp only [multianewarray.sem, wp_bind', W.resolveClassAt_links (State.method?_setTop g X.here.top) hg1]
  rw [W.popN, if_neg (by decide)]
  refine ⟨g, State.topJava?_setTop' (s := T.setVm vm1) g X.here.top, [.int n, .int k], rest, rfl, hst, ?_⟩
  simp only [List.mapM_cons, List.mapM_nil, wp_bind', wp_pure']
  refine mn_grid (kA := kA') (kI := kI') (cI := cI) (cc := cc) hk1 (by rw [he1]; exact h2) hk2 (by rw [he2]; exact g2) hn hN hk hK (l1 _ hb1) (l2 _ hb1) (l1 _ hb2) (l2 _ hb2) (by show T.heap.size + 1 + _ ≤ _; omega) (by show T.slotsUsed + _ + _ ≤ _; omega) (fun d' acts' => ?_)
  rw [show ((T.setTop g).setVm vm1).setTop { g with stack := rest } = (T.setVm vm1).setTop { g with stack := rest } by
    show ((T.setVm vm1).setTop g).setTop _ = _
    rw [State.setTop_setTop], grd_top]
  simp only [wp_bind', W.mark, W.pushRef, State.topJava?_setTop' _ XF.here.top, Option.some.injEq, exists_eq_left', State.setTop_setTop, State.heap_setTop]
  intro acts
  simp [jvm, XF.here.top]
  exact hrest
theorem mn_words {args : Array Value} (h : (Cond.arrayOver (.array .int)).before args s = true) : ∃ cI cA kA, s.vm.findClass "[I" = some cI ∧ s.vm.findClass "[[I" = some cA ∧ s.vm.classes[cA]? = some kA ∧ kA.kind = .array cI (.array .int) := by
  simp only [Cond.before, Cond.holds, Cond.value, beq_iff_eq] at h
  have e1 : (FieldType.array .int).toString = "[I" := by decide +kernel
  have e2 : "[" ++ (FieldType.array .int).toString = "[[I" := by decide +kernel
  rw [e1] at h
  cases hI : s.vm.findClass "[I" with
  | none => simp [hI] at h
  | some cI =>
    simp only [hI, Option.bind_some, Option.bind_eq_some_iff, Option.map_eq_some_iff] at h
    obtain ⟨cA, h1, kA, h2, h3⟩ := h
    obtain ⟨hlt, h4, -⟩ := Array.findIdx?_eq_some_iff_getElem.mp h1
    rw [(Array.getElem?_eq_some_iff.mp h2).2] at h4
    cases hk : kA.kind with
    | array c2 ty =>
      rw [hk] at h3 h4
      have h5 : c2 = cI := by simpa using h4
      simp at h3
      exact ⟨cI, cA, kA, rfl, (by rw [← e2, e1]; exact h3.2), h2, by rw [hk, h5, h3.1]⟩
    | _ => rw [hk] at h3; simp at h3
end
