/-! THE ABSTRACT MACHINE. A heap is a list of things, each a kind and its contents; a reference is a place in the list. Kinds below 100: objects of ab_cl; 100 .. 104: int[], byte[], long[], double[], int[][]. retAddr k stands for what the start holds: texts (k < 6), a static (50), the script (100). -/
abbrev ab_H : Type := List (Nat × List Value)
abbrev ab_O : Type := Option Value ⊕ Nat
abbrev ab_M : Type := MethodName × ByteArray × Nat × Option FieldType × List (Nat × Nat × Nat × Nat)
/-- the classes of exceptions, by numbers -/
def ab_E (k : Nat) : String := if k = 1 then "java/lang/IndexOutOfBoundsException" else if k = 2 then "java/lang/IllegalArgumentException" else if k = 3 then "java/lang/IllegalStateException" else "java/util/NoSuchElementException"
abbrev ab_cl : List vw_C := vwCl ++ [(ab_E 1, TX0, 0), (ab_E 2, TX0, 0), (ab_E 3, TX0, 0), (ab_E 4, TX0, 0)]
def ab_v (σ : Nat → Nat) (τ : Nat → Value) (v : Value) : Value := match v with
  | .ref i => .ref (σ i)
  | .retAddr k => τ k
  | w => w
def ab_ok (n : Nat) (v : Value) : Prop := match v with
  | .ref i => i < n
  | _ => True
def ab_i (v : Value) : Int32 := match v with
  | .int x => x
  | _ => 0
def ab_j (v : Value) : Int64 := match v with
  | .long x => x
  | _ => 0
def ab_d (v : Value) : UInt64 := match v with
  | .double x => x
  | _ => 0
def ab_q (σ : Nat → Nat) (v : Value) : Option Nat := match v with
  | .ref i => some (σ i)
  | _ => none
def ab_e (dA : Nat → ClassId) (σ : Nat → Nat) (τ : Nat → Value) (c : Nat × List Value) : va_E :=
  if c.1 < 100 then .inr (c.1, c.2.map (ab_v σ τ))
  else if c.1 = 100 then .inl (dA 0, c.2.length, .inl (fun j => ab_i (c.2.getD j .null)))
  else if c.1 = 101 then .inl (dA 1, c.2.length, .inl (fun j => ab_i (c.2.getD j .null)))
  else if c.1 = 102 then .inl (dA 2, c.2.length, .inr (.inl (fun j => ab_j (c.2.getD j .null))))
  else if c.1 = 103 then .inl (dA 3, c.2.length, .inr (.inr (.inr (.inl (fun j => ab_d (c.2.getD j .null))))))
  else .inl (dA 4, c.2.length, .inr (.inr (.inr (.inr (fun j => ab_q σ (c.2.getD j .null))))))
def ab_w (dA : Nat → ClassId) (σ : Nat → Nat) (τ : Nat → Value) (h : ab_H) : va_W := h.mapIdx (fun i c => (σ i, ab_e dA σ τ c))
def ab_l (σ : Nat → Nat) (τ : Nat → Value) (ls : List (Option Value)) : List (Nat × Value) := ls.zipIdx.filterMap (fun q => q.1.map (fun v => (q.2, ab_v σ τ v)))
def ab_okS (n : Nat) (st : List Value) : Prop := ∀ v ∈ st, ab_ok n v
def ab_okL (n : Nat) (ls : List (Option Value)) : Prop := ∀ v, some v ∈ ls → ab_ok n v
def ab_wf (h : ab_H) : Prop := ∀ c ∈ h, ab_okS h.length c.2
def ab_ext (σ σ' : Nat → Nat) (n : Nat) : Prop := ∀ i, i < n → σ' i = σ i
abbrev ab_tys (dA : Nat → ClassId) : List (ClassId × FieldType) := [(dA 0, .int), (dA 1, .byte), (dA 2, .long), (dA 3, .double), (dA 4, .array .int)]
/-- words of nest mates, and of casts -/
def ab_isN (w : Cond) : Bool := match w with
  | .fieldLinkNest _ _ _ _ _ _ => true
  | .methodLinkNest _ _ _ _ => true
  | .castable _ _ => true
  | .declares _ => true
  | _ => false
def ab_big : List Cond := lw_tbl.filter goodWord
def ab_nest : List Cond := lw_tbl.filter ab_isN
def ab_isS (w : Cond) : Bool := match w with
  | .stringRef _ _ _ => true
  | _ => false
/-- the six texts that the code reads -/
def ab_txt : List String := ["vertices", "edge", "path", "star", "code", "weight"]
def ab_len : List Nat := [8, 4, 4, 4, 4, 6]
def ab_byt : List (List Int32) := [[118, 101, 114, 116, 105, 99, 101, 115], [101, 100, 103, 101], [112, 97, 116, 104], [115, 116, 97, 114], [99, 111, 100, 101], [119, 101, 105, 103, 104, 116]]
abbrev ab_siC : String := "jdk/internal/util/Preconditions"
/-- what the start of a method says, of the heap H, with A what it may change -/
def ab_G (sc : Option (List Int32)) (D : va_G) (dA : Nat → ClassId) (τ : Nat → Value) (A : Nat → Prop) (U : State) (H : Heap) : Prop :=
  va_K D ab_cl (ab_tys dA) U ∧ (∀ w ∈ ab_nest, va_Nw w U) ∧
  (∀ own k tx, Cond.stringRef own k tx ∈ lw_tbl → ∃ a, vk_R own k tx a U ∧ ∀ i, ab_txt[i]? = some tx → τ i = .ref a) ∧
  (∃ adK adV : Nat → Nat, vk_S 6 ab_len ab_byt adK adV A U H ∧ ∀ i, i < 6 → τ i = .ref (adK i) ∧ τ (10 + i) = .ref (adV i)) ∧
  vx_Zq Bundle.tN "UNASSIGNED_STACK" Bundle.steD A U H ∧ vx_Zq Bundle.tN "SUPPRESSED_SENTINEL" Bundle.listD A U H ∧
  va_Z "java/lang/String" "COMPACT_STRINGS" "Z" (.int 1) A U H ∧ (va_Z ab_siC "SIOOBE_FORMATTER" "Ljava/util/function/BiFunction;" (τ 50) A U H ∧ (τ 50).category = 1) ∧
  (∀ i j, i < 5 → j < 5 → i ≠ j → 0 < i → 0 < j → va_Nc (ab_E i) (ab_E j) U) ∧ (Cond.arrayOver (.array .int)).before #[] U = true ∧
  (match sc with
   | none => True
   | some xs => ∃ b, τ 100 = .ref b ∧ va_X b xs.length (fun j => xs.getD j 0) U H ∧ b < H.size ∧ ¬ A b)
def ab_Y (s : State) (D : va_G) (dA : Nat → ClassId) (τ : Nat → Value) (A : Nat → Prop) (σ0 : Nat → Nat) (n0 Cm Sm rc rs : Nat) (σ : Nat → Nat) (h : ab_H) (H : Heap) (locs : List Loc) (cells slots : Nat) : Prop :=
  va_P D ab_cl (ab_w dA σ τ h) H ∧ va_D A (ab_w dA σ τ h) ∧ va_S A s.heap H locs ∧ ab_wf h ∧ ab_ext σ0 σ n0 ∧ n0 ≤ h.length ∧ cells + rc ≤ Cm ∧ slots + rs ≤ Sm
def ab_ret (ret : Option FieldType) (ins : Instr) (v : Option Value) : Prop :=
  (ret = none ∧ ins = .return_ ∧ v = none) ∨
  (∃ ty x, ret = some ty ∧ ins = .ireturn ∧ v = some (.int x) ∧ narrow ty (.int x) = .int x) ∨
  (∃ x, ret = some .long ∧ ins = .lreturn ∧ v = some (.long x)) ∨
  (∃ x, ret = some .float ∧ ins = .freturn ∧ v = some (.float x)) ∨
  (∃ x, ret = some .double ∧ ins = .dreturn ∧ v = some (.double x)) ∨
  (∃ ty i, ret = some ty ∧ ((∃ n, ty = .object n) ∨ ∃ t, ty = .array t) ∧ ins = .areturn ∧ v = some (.ref i))
/-- what stays through a frame's run, and what is owed at its ends -/
def ab_X (sc : Option (List Int32)) (M : ab_M) (d : Nat) (P : ab_O → ab_H → Prop) (p : Program) (l : Launch) (e : Env) (R : Room) (s : State) (m : MethodId) (args : Array Value) (below : List Frame) (meth : Method) (c : Code) (Q : State → Prop) (D : va_G) (dA : Nat → ClassId) (τ : Nat → Value) (A : Nat → Prop) (σ0 : Nat → Nat) (n0 Cm Sm : Nat) : Prop :=
  p.tables.exec = Jvm.exec ∧ l.stackTraces = false ∧ c.code = M.2.1 ∧ c.maxLocals = M.2.2.1 ∧ meth.sig.returnType = M.2.2.2.1 ∧ c.exceptionTable.toList = tableOf M.2.2.2.2 ∧ s.vm.findClass M.1.cls = some m.cls ∧ meth.name = M.1.name ∧ meth.locks = false ∧
  (∀ w ∈ ab_big, w.before args s = true) ∧ ab_G sc D dA τ A s s.heap ∧ (∀ q, s.heap.size ≤ q → A q) ∧ d + 10 ≤ R.frames ∧ 40 * d + 220 ≤ R.locals ∧ Cm ≤ R.cells ∧ Sm ≤ R.slots ∧
  (∀ (v : Option Value) (h' : ab_H) (σ' : Nat → Nat) (H' : Heap) (locs' : List Loc) (cells' slots' pc' : Nat) (lv' : Array Slot) (ins : Instr), P (.inl v) h' → ab_Y s D dA τ A σ0 n0 Cm Sm 0 0 σ' h' H' locs' cells' slots' → ab_okS h'.length v.toList → decode M.2.1 pc' = .ok (ins, 1) → ab_ret M.2.2.2.1 ins v →
    W p l e R s m args below meth c H' locs' cells' slots' Q (F0 m pc' lv' (v.map (ab_v σ' τ)).toList)) ∧
  (∀ (E : Nat) (h' : ab_H) (σ' : Nat → Nat) (H' : Heap) (locs' : List Loc) (cells' slots' pc' : Nat) (lv' : Array Slot) (rest : List Value) (q : Addr) (ce : Cell), P (.inr E) h' → ab_Y s D dA τ A σ0 n0 Cm Sm 0 0 σ' h' H' locs' cells' slots' → H'[q]? = some ce → ce.vm = .none → s.vm.findClass (ab_E E) = some ce.cls → M.2.2.2.2 = [] →
    vx_W p l e R s m args below meth c H' locs' cells' slots' Q (F0 m pc' lv' rest) q)
/-- from this state of a frame of the method M, with d calls deep, rc things and rs slots yet to be made, the machine comes to an end of M with P -/
def SW (sc : Option (List Int32)) (M : ab_M) (d rc rs pc : Nat) (ls : List (Option Value)) (st : List Value) (h : ab_H) (P : ab_O → ab_H → Prop) : Prop :=
  ∀ (p : Program) (l : Launch) (e : Env) (R : Room) (s : State) (m : MethodId) (args : Array Value) (below : List Frame) (meth : Method) (c : Code) (Q : State → Prop) (D : va_G) (dA : Nat → ClassId) (τ : Nat → Value) (A : Nat → Prop) (σ0 : Nat → Nat) (n0 Cm Sm : Nat),
    ab_X sc M d P p l e R s m args below meth c Q D dA τ A σ0 n0 Cm Sm →
    ∀ (σ : Nat → Nat) (H : Heap) (locs : List Loc) (cells slots : Nat) (lv : Array Slot),
      ab_Y s D dA τ A σ0 n0 Cm Sm rc rs σ h H locs cells slots → lv_has lv M.2.2.1 (ab_l σ τ ls) → ab_okL h.length ls → ab_okS h.length st →
      W p l e R s m args below meth c H locs cells slots Q (F0 m pc lv (st.map (ab_v σ τ)))
/-- an exception of class E has come to this place of the frame -/
def ST (sc : Option (List Int32)) (M : ab_M) (d rc rs pc : Nat) (ls : List (Option Value)) (h : ab_H) (E : Nat) (P : ab_O → ab_H → Prop) : Prop :=
  ∀ (p : Program) (l : Launch) (e : Env) (R : Room) (s : State) (m : MethodId) (args : Array Value) (below : List Frame) (meth : Method) (c : Code) (Q : State → Prop) (D : va_G) (dA : Nat → ClassId) (τ : Nat → Value) (A : Nat → Prop) (σ0 : Nat → Nat) (n0 Cm Sm : Nat),
    ab_X sc M d P p l e R s m args below meth c Q D dA τ A σ0 n0 Cm Sm →
    ∀ (σ : Nat → Nat) (H : Heap) (locs : List Loc) (cells slots : Nat) (lv : Array Slot) (rest : List Value) (q : Addr) (ce : Cell),
      ab_Y s D dA τ A σ0 n0 Cm Sm rc rs σ h H locs cells slots → lv_has lv M.2.2.1 (ab_l σ τ ls) → ab_okL h.length ls → H[q]? = some ce → ce.vm = .none → s.vm.findClass (ab_E E) = some ce.cls →
      vx_W p l e R s m args below meth c H locs cells slots Q (F0 m pc lv rest) q
theorem SW.use {sc : Option (List Int32)} {M : ab_M} {d rc rs pc : Nat} {ls : List (Option Value)} {st : List Value} {h : ab_H} {P : ab_O → ab_H → Prop} (k : SW sc M d rc rs pc ls st h P) {p : Program} {l : Launch} {e : Env} {R : Room} {s : State} {m : MethodId} {args : Array Value} {below : List Frame} {meth : Method} {c : Code} {Q : State → Prop} {D : va_G} {dA : Nat → ClassId} {τ : Nat → Value} {A : Nat → Prop} {σ0 : Nat → Nat} {n0 Cm Sm : Nat} (hX : ab_X sc M d P p l e R s m args below meth c Q D dA τ A σ0 n0 Cm Sm) {σ : Nat → Nat} {H : Heap} {locs : List Loc} {cells slots : Nat} {lv : Array Slot} (hY : ab_Y s D dA τ A σ0 n0 Cm Sm rc rs σ h H locs cells slots) (hl : lv_has lv M.2.2.1 (ab_l σ τ ls)) (hol : ab_okL h.length ls) (hos : ab_okS h.length st) : W p l e R s m args below meth c H locs cells slots Q (F0 m pc lv (st.map (ab_v σ τ))) :=
  k p l e R s m args below meth c Q D dA τ A σ0 n0 Cm Sm hX σ H locs cells slots lv hY hl hol hos
/-! plain facts of the abstract things -/
theorem ab_okS_tl {n : Nat} {v : Value} {st : List Value} (h : ab_okS n (v :: st)) : ab_okS n st := fun w hw => h w (List.mem_cons_of_mem _ hw)
theorem ab_okS_hd {n : Nat} {v : Value} {st : List Value} (h : ab_okS n (v :: st)) : ab_ok n v := h v List.mem_cons_self
theorem ab_okS_cons {n : Nat} {v : Value} {st : List Value} (h1 : ab_ok n v) (h : ab_okS n st) : ab_okS n (v :: st) := fun w hw => by
  rcases List.mem_cons.mp hw with rfl | hw
  · exact h1
  · exact h w hw
theorem ab_okS_nil {n : Nat} : ab_okS n [] := fun _ h => by cases h
theorem ab_ok_mono {n n' : Nat} (hn : n ≤ n') {v : Value} (h : ab_ok n v) : ab_ok n' v := by
  cases v <;> first | trivial | exact Nat.lt_of_lt_of_le h hn
theorem ab_okS_mono {n n' : Nat} (hn : n ≤ n') {st : List Value} (h : ab_okS n st) : ab_okS n' st := fun v hv => ab_ok_mono hn (h v hv)
theorem ab_okL_mono {n n' : Nat} (hn : n ≤ n') {ls : List (Option Value)} (h : ab_okL n ls) : ab_okL n' ls := fun v hv => ab_ok_mono hn (h v hv)
theorem ab_okL_set {n : Nat} {ls : List (Option Value)} {i : Nat} {v : Value} (h : ab_okL n ls) (hv : ab_ok n v) : ab_okL n (ls.set i (some v)) := fun w hw => by
  rcases List.mem_or_eq_of_mem_set hw with h1 | h1
  · exact h w h1
  · cases h1; exact hv
theorem ab_okL_none {n : Nat} {ls : List (Option Value)} {i : Nat} (h : ab_okL n ls) : ab_okL n (ls.set i none) := fun w hw => by
  rcases List.mem_or_eq_of_mem_set hw with h1 | h1
  · exact h w h1
  · cases h1
theorem ab_okL_at {n : Nat} {ls : List (Option Value)} {i : Nat} {v : Value} (h : ab_okL n ls) (hv : ls[i]? = some (some v)) : ab_ok n v := h v (List.mem_of_getElem? hv)
theorem ab_v_ext {σ σ' : Nat → Nat} {τ : Nat → Value} {n : Nat} (h : ab_ext σ σ' n) {v : Value} (hv : ab_ok n v) : ab_v σ' τ v = ab_v σ τ v := by
  cases v <;> first | rfl | exact congrArg Value.ref (h _ hv)
theorem ab_map_ext {σ σ' : Nat → Nat} {τ : Nat → Value} {n : Nat} (h : ab_ext σ σ' n) {st : List Value} (hv : ab_okS n st) : st.map (ab_v σ' τ) = st.map (ab_v σ τ) := List.map_congr_left fun v hm => ab_v_ext h (hv v hm)
theorem ab_ext_rf {σ : Nat → Nat} {n : Nat} : ab_ext σ σ n := fun _ _ => rfl
theorem ab_ext_tr {σ σ1 σ2 : Nat → Nat} {n n1 : Nat} (h1 : ab_ext σ σ1 n) (h2 : ab_ext σ1 σ2 n1) (hn : n ≤ n1) : ab_ext σ σ2 n := fun i hi => (h2 i (Nat.lt_of_lt_of_le hi hn)).trans (h1 i hi)
theorem ab_ext_up {σ : Nat → Nat} {n q : Nat} : ab_ext σ (va_up σ n q) n := fun i hi => by
  show (if i = n then q else σ i) = σ i
  rw [if_neg (Nat.ne_of_lt hi)]
theorem ab_w_at {dA : Nat → ClassId} {σ : Nat → Nat} {τ : Nat → Value} {h : ab_H} {i : Nat} {c : Nat × List Value} (hc : h[i]? = some c) : (ab_w dA σ τ h)[i]? = some (σ i, ab_e dA σ τ c) := by
  unfold ab_w
  rw [List.getElem?_mapIdx, hc]
  rfl
theorem ab_w_set {dA : Nat → ClassId} {σ : Nat → Nat} {τ : Nat → Value} {h : ab_H} {i : Nat} {c : Nat × List Value} : ab_w dA σ τ (h.set i c) = (ab_w dA σ τ h).set i (σ i, ab_e dA σ τ c) := by
  apply List.ext_getElem?
  intro j
  unfold ab_w
  rw [List.getElem?_mapIdx, List.getElem?_set, List.getElem?_set, List.getElem?_mapIdx, List.length_mapIdx]
  by_cases hij : i = j
  · subst hij
    rw [if_pos rfl, if_pos rfl]
    by_cases hl : i < h.length
    · rw [if_pos hl, if_pos hl]; rfl
    · rw [if_neg hl, if_neg hl]; rfl
  · rw [if_neg hij, if_neg hij]
theorem ab_w_len {dA : Nat → ClassId} {σ : Nat → Nat} {τ : Nat → Value} {h : ab_H} : (ab_w dA σ τ h).length = h.length := by
  unfold ab_w; rw [List.length_mapIdx]
theorem ab_e_ext {dA : Nat → ClassId} {σ σ' : Nat → Nat} {τ : Nat → Value} {n : Nat} (h : ab_ext σ σ' n) {c : Nat × List Value} (hc : ab_okS n c.2) : ab_e dA σ' τ c = ab_e dA σ τ c := by
  unfold ab_e
  rw [ab_map_ext h hc]
  have hq : (fun j => ab_q σ' (c.2.getD j .null)) = (fun j => ab_q σ (c.2.getD j .null)) := by
    funext j
    have ho : ab_ok n (c.2.getD j .null) := by
      rw [List.getD_eq_getElem?_getD]
      cases hj : c.2[j]? with
      | none => trivial
      | some v => exact hc v (List.mem_of_getElem? hj)
    cases hg : c.2.getD j .null with
    | ref i => rw [hg] at ho; exact congrArg some (h i ho)
    | _ => rfl
  rw [hq]
theorem ab_w_ext {dA : Nat → ClassId} {σ σ' : Nat → Nat} {τ : Nat → Value} {h : ab_H} (he : ab_ext σ σ' h.length) (hw : ab_wf h) : ab_w dA σ' τ h = ab_w dA σ τ h := by
  apply List.ext_getElem?
  intro j
  unfold ab_w
  rw [List.getElem?_mapIdx, List.getElem?_mapIdx]
  cases hj : h[j]? with
  | none => rfl
  | some c =>
    show some (σ' j, ab_e dA σ' τ c) = some (σ j, ab_e dA σ τ c)
    rw [he j (List.getElem?_eq_some_iff.mp hj).1, ab_e_ext he (hw c (List.mem_of_getElem? hj))]
theorem ab_w_app {dA : Nat → ClassId} {σ : Nat → Nat} {τ : Nat → Value} {h : ab_H} {c : Nat × List Value} : ab_w dA σ τ (h ++ [c]) = ab_w dA σ τ h ++ [(σ h.length, ab_e dA σ τ c)] := by
  unfold ab_w
  rw [List.mapIdx_append]
  simp
theorem ab_wf_set {h : ab_H} {i : Nat} {c : Nat × List Value} (hw : ab_wf h) (hc : ab_okS h.length c.2) : ab_wf (h.set i c) := fun x hx => by
  rw [List.length_set]
  rcases List.mem_or_eq_of_mem_set hx with h1 | h1
  · exact hw x h1
  · rw [h1]; exact hc
theorem ab_wf_app {h : ab_H} {c : Nat × List Value} (hw : ab_wf h) (hc : ab_okS (h.length + 1) c.2) : ab_wf (h ++ [c]) := fun x hx => by
  rw [List.length_append]
  rcases List.mem_append.mp hx with h1 | h1
  · exact ab_okS_mono (Nat.le_succ _) (hw x h1)
  · rw [List.mem_singleton.mp h1]; exact hc
theorem ab_fmc {α β : Type} {f g : α → Option β} : ∀ {l : List α}, (∀ x ∈ l, f x = g x) → l.filterMap f = l.filterMap g
  | [], _ => rfl
  | a :: l, h => by
    rw [List.filterMap_cons, List.filterMap_cons, h a List.mem_cons_self, ab_fmc (fun x hx => h x (List.mem_cons_of_mem _ hx))]
theorem ab_l_mem {σ : Nat → Nat} {τ : Nat → Value} {ls : List (Option Value)} {q : Nat × Value} : q ∈ ab_l σ τ ls ↔ ∃ v, ls[q.1]? = some (some v) ∧ q.2 = ab_v σ τ v := by
  unfold ab_l
  rw [List.mem_filterMap]
  constructor
  · rintro ⟨⟨o, i⟩, hm, ho⟩
    have hi := List.mem_zipIdx_iff_getElem?.mp hm
    cases o with
    | none => cases ho
    | some v =>
      have : (i, ab_v σ τ v) = q := Option.some.inj ho
      subst this
      exact ⟨v, hi, rfl⟩
  · rintro ⟨v, hi, hv⟩
    exact ⟨(some v, q.1), List.mem_zipIdx_iff_getElem?.mpr hi, congrArg some (Prod.ext rfl hv.symm)⟩
theorem ab_l_at {σ : Nat → Nat} {τ : Nat → Value} {ls : List (Option Value)} {nL : Nat} {lv : Array Slot} (hl : lv_has lv nL (ab_l σ τ ls)) {i : Nat} {v : Value} (hv : ls[i]? = some (some v)) : lv[i]? = some (.val (ab_v σ τ v)) := hl.2.2 (i, ab_v σ τ v) (ab_l_mem.mpr ⟨v, hv, rfl⟩)
theorem ab_l_ext {σ σ' : Nat → Nat} {τ : Nat → Value} {ls : List (Option Value)} {n : Nat} (he : ab_ext σ σ' n) (ho : ab_okL n ls) : ab_l σ' τ ls = ab_l σ τ ls := by
  unfold ab_l
  refine ab_fmc fun q hq => ?_
  cases h : q.1 with
  | none => rfl
  | some v =>
    have hi := List.mem_zipIdx_iff_getElem?.mp hq
    rw [h] at hi
    show some (q.2, ab_v σ' τ v) = some (q.2, ab_v σ τ v)
    rw [ab_v_ext he (ab_okL_at ho hi)]
/-- the value ahead of a place is none of two slots -/
def ab_pre (ls : List (Option Value)) (i : Nat) : Bool := match i with
  | 0 => true
  | k + 1 => match ls[k]? with
    | some (some v) => v.category == 1
    | _ => true
theorem ab_cat {σ : Nat → Nat} {τ : Nat → Value} {v : Value} (h : v.category = 1 ∨ v.category = 2) : (∀ k, v ≠ .retAddr k) → (ab_v σ τ v).category = v.category := by
  intro hk
  cases v <;> first | rfl | exact absurd rfl (hk _)
theorem ab_l_set1 {σ : Nat → Nat} {τ : Nat → Value} {ls : List (Option Value)} {nL i : Nat} {w : Value} {lv : Array Slot} {v : Value} (hw : ab_v σ τ v = w) (hp : ∀ (k : Nat) (u : Value), i = k + 1 → ls[k]? = some (some u) → (ab_v σ τ u).category = 1)
    (h : lv_has lv nL ((i, w) :: (ab_l σ τ ls).filter (fun q => !(q.1 == i) && !(q.1 + 1 == i && q.2.category == 2)))) : lv_has lv nL (ab_l σ τ (ls.set i (some v))) := by
  refine ⟨h.1, h.2.1, fun q hq => h.2.2 q ?_⟩
  obtain ⟨u, hu, hq2⟩ := ab_l_mem.mp hq
  by_cases hi : q.1 = i
  · have hlt : i < ls.length := by
      have := (List.getElem?_eq_some_iff.mp hu).1
      rw [List.length_set] at this
      omega
    rw [hi, List.getElem?_set_self hlt] at hu
    cases hu
    exact List.mem_cons.mpr (Or.inl (Prod.ext hi (hq2.trans hw)))
  · rw [List.getElem?_set_ne (Ne.symm hi)] at hu
    refine List.mem_cons.mpr (Or.inr (List.mem_filter.mpr ⟨ab_l_mem.mpr ⟨u, hu, hq2⟩, ?_⟩))
    simp only [Bool.and_eq_true, Bool.not_eq_true', beq_eq_false_iff_ne, ne_eq, Bool.and_eq_false_iff]
    refine ⟨hi, ?_⟩
    by_cases h2 : q.1 + 1 = i
    · right
      rw [hq2, hp q.1 u h2.symm hu]
      decide
    · exact Or.inl h2
theorem ab_l_set2 {σ : Nat → Nat} {τ : Nat → Value} {ls : List (Option Value)} {nL i : Nat} {w : Value} {lv : Array Slot} {v : Value} (hw : ab_v σ τ v = w) (hp : ∀ (k : Nat) (u : Value), i = k + 1 → ls[k]? = some (some u) → (ab_v σ τ u).category = 1)
    (h : lv_has lv nL ((i, w) :: (ab_l σ τ ls).filter (fun q => !(q.1 == i) && (!(q.1 == i + 1) && !(q.1 + 1 == i && q.2.category == 2))))) : lv_has lv nL (ab_l σ τ ((ls.set i (some v)).set (i + 1) none)) := by
  refine ⟨h.1, h.2.1, fun q hq => h.2.2 q ?_⟩
  obtain ⟨u, hu, hq2⟩ := ab_l_mem.mp hq
  by_cases h3 : q.1 = i + 1
  · have hlt : i + 1 < (ls.set i (some v)).length := by
      have := (List.getElem?_eq_some_iff.mp hu).1
      rw [List.length_set] at this
      omega
    rw [h3, List.getElem?_set_self hlt] at hu
    cases hu
  · rw [List.getElem?_set_ne (Ne.symm h3)] at hu
    by_cases hi : q.1 = i
    · have hlt : i < ls.length := by
        have := (List.getElem?_eq_some_iff.mp hu).1
        rw [List.length_set] at this
        omega
      rw [hi, List.getElem?_set_self hlt] at hu
      cases hu
      exact List.mem_cons.mpr (Or.inl (Prod.ext hi (hq2.trans hw)))
    · rw [List.getElem?_set_ne (Ne.symm hi)] at hu
      refine List.mem_cons.mpr (Or.inr (List.mem_filter.mpr ⟨ab_l_mem.mpr ⟨u, hu, hq2⟩, ?_⟩))
      simp only [Bool.and_eq_true, Bool.not_eq_true', beq_eq_false_iff_ne, ne_eq, Bool.and_eq_false_iff]
      refine ⟨hi, h3, ?_⟩
      by_cases h2 : q.1 + 1 = i
      · right
        rw [hq2, hp q.1 u h2.symm hu]
        decide
      · exact Or.inl h2
theorem ab_l_none {σ : Nat → Nat} {τ : Nat → Value} {ls : List (Option Value)} {nL i : Nat} {w : Value} {lv : Array Slot} (hp : ∀ (k : Nat) (u : Value), i = k + 1 → ls[k]? = some (some u) → (ab_v σ τ u).category = 1)
    (h : lv_has lv nL ((i, w) :: (ab_l σ τ ls).filter (fun q => !(q.1 == i) && !(q.1 + 1 == i && q.2.category == 2)))) : lv_has lv nL (ab_l σ τ (ls.set i none)) := by
  refine ⟨h.1, h.2.1, fun q hq => h.2.2 q ?_⟩
  obtain ⟨u, hu, hq2⟩ := ab_l_mem.mp hq
  by_cases hi : q.1 = i
  · have hlt : i < ls.length := by
      have := (List.getElem?_eq_some_iff.mp hu).1
      rw [List.length_set] at this
      omega
    rw [hi, List.getElem?_set_self hlt] at hu
    cases hu
  · rw [List.getElem?_set_ne (Ne.symm hi)] at hu
    refine List.mem_cons.mpr (Or.inr (List.mem_filter.mpr ⟨ab_l_mem.mpr ⟨u, hu, hq2⟩, ?_⟩))
    simp only [Bool.and_eq_true, Bool.not_eq_true', beq_eq_false_iff_ne, ne_eq, Bool.and_eq_false_iff]
    refine ⟨hi, ?_⟩
    by_cases h2 : q.1 + 1 = i
    · right
      rw [hq2, hp q.1 u h2.symm hu]
      decide
    · exact Or.inl h2
/-- the test of a store, by computation on the written locals -/
def ab_st (ls : List (Option Value)) (i : Nat) : Bool := match i with
  | 0 => true
  | k + 1 => match ls[k]? with
    | some (some (.int _)) => true
    | some (some (.ref _)) => true
    | some (some (.float _)) => true
    | some none => true
    | none => true
    | _ => false
theorem ab_st_ok {σ : Nat → Nat} {τ : Nat → Value} {ls : List (Option Value)} {i : Nat} (h : ab_st ls i = true) : ∀ (k : Nat) (u : Value), i = k + 1 → ls[k]? = some (some u) → (ab_v σ τ u).category = 1 := by
  intro k u hi hu
  subst hi
  simp only [ab_st, hu] at h
  cases u <;> first | rfl | simp at h
theorem ab_entry {σ : Nat → Nat} {τ : Nat → Value} {vs : List Value} {n : Nat} {lv : Array Slot} (hc : ∀ v ∈ vs, (ab_v σ τ v).category = 1) (h : lv_has lv n (lv_args 0 (vs.map (ab_v σ τ)))) {k : Nat} : lv_has lv n (ab_l σ τ (vs.map some ++ List.replicate k none)) := by
  have key : ∀ (vs : List Value), (∀ v ∈ vs, (ab_v σ τ v).category = 1) → ∀ (j b : Nat) (v : Value), vs[j]? = some v → (b + j, ab_v σ τ v) ∈ lv_args b (vs.map (ab_v σ τ)) := by
    intro vs
    induction vs with
    | nil => intro _ j b v h; simp at h
    | cons a l ih =>
      intro hc j b v hj
      have h1 := hc a List.mem_cons_self
      cases j with
      | zero =>
        simp at hj
        subst hj
        simp [lv_args]
      | succ j =>
        rw [List.getElem?_cons_succ] at hj
        have h2 := ih (fun v hv => hc v (List.mem_cons_of_mem _ hv)) j (b + 1) v hj
        rw [List.map_cons]
        simp only [lv_args, h1]
        refine List.mem_cons_of_mem _ ?_
        have e : b + 1 + j = b + (j + 1) := by omega
        rw [← e]
        exact h2
  refine ⟨h.1, h.2.1, fun q hq => h.2.2 q ?_⟩
  obtain ⟨u, hu, hq2⟩ := ab_l_mem.mp hq
  by_cases hl : q.1 < (vs.map some).length
  · rw [List.getElem?_append_left hl, List.getElem?_map] at hu
    cases hv : vs[q.1]? with
    | none => rw [hv] at hu; cases hu
    | some w =>
      rw [hv] at hu
      have hw : w = u := Option.some.inj (Option.some.inj hu)
      subst hw
      have := key vs hc q.1 0 w hv
      rw [Nat.zero_add] at this
      rw [show q = (q.1, ab_v σ τ w) from Prod.ext rfl hq2]
      exact this
  · rw [List.getElem?_append_right (by omega)] at hu
    rw [List.getElem?_replicate] at hu
    split at hu
    · cases hu
    · cases hu
