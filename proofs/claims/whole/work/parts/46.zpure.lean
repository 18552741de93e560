/-! counting sets -/
theorem cP_le {α : Type} {p q r : α → Bool} : ∀ {l : List α}, (∀ x ∈ l, p x = true → q x = true ∨ r x = true) → l.countP p ≤ l.countP q + l.countP r
  | [], _ => Nat.le_refl _
  | a :: l, h => by
    have ih := cP_le (l := l) (p := p) (q := q) (r := r) (fun x hx => h x (List.mem_cons_of_mem _ hx))
    have ha := h a List.mem_cons_self
    rw [List.countP_cons, List.countP_cons, List.countP_cons]
    cases h1 : p a <;> cases h2 : q a <;> cases h3 : r a <;> simp [h1, h2, h3] at ha ⊢ <;> omega
theorem cP_ge {α : Type} {p q r : α → Bool} : ∀ {l : List α}, (∀ x ∈ l, (q x = true → p x = true) ∧ (r x = true → p x = true) ∧ ¬ (q x = true ∧ r x = true)) → l.countP q + l.countP r ≤ l.countP p
  | [], _ => Nat.le_refl _
  | a :: l, h => by
    have ih := cP_ge (l := l) (p := p) (q := q) (r := r) (fun x hx => h x (List.mem_cons_of_mem _ hx))
    have ha := h a List.mem_cons_self
    rw [List.countP_cons, List.countP_cons, List.countP_cons]
    cases h1 : p a <;> cases h2 : q a <;> cases h3 : r a <;> simp [h1, h2, h3] at ha ⊢ <;> omega
theorem cP_one : ∀ v, v < 10 → (List.range 10).countP (fun i => decide (i = v)) = 1 := by decide
theorem pc_sub {a b : Nat} : pc a ≤ pc (df a b) + pc b := by
  unfold pc
  exact cP_le (fun x _ hx => by
    rw [df_bit]
    cases h : b.testBit x
    · exact Or.inl (by rw [hx]; rfl)
    · exact Or.inr rfl)
theorem pc_or1 {a v : Nat} (hv : v < 10) : pc (a ||| 2 ^ v) ≤ pc a + 1 := by
  unfold pc
  have := cP_le (l := List.range 10) (p := fun i => (a ||| 2 ^ v).testBit i) (q := fun i => a.testBit i) (r := fun i => decide (i = v)) (fun x _ hx => by
    rw [Nat.testBit_or, pow_bit, Bool.or_eq_true] at hx
    rcases hx with h | h
    · exact Or.inl h
    · exact Or.inr (decide_eq_true (of_decide_eq_true h).symm))
  rw [cP_one v hv] at this
  exact this
theorem pc_df1 {a v : Nat} (hv : v < 10) (hb : a.testBit v = true) : pc (df a (2 ^ v)) + 1 = pc a := by
  have h1 : pc a ≤ pc (df a (2 ^ v)) + 1 := by
    unfold pc
    have := cP_le (l := List.range 10) (p := fun i => a.testBit i) (q := fun i => (df a (2 ^ v)).testBit i) (r := fun i => decide (i = v)) (fun x _ hx => by
      rw [df_bit, pow_bit]
      by_cases h : x = v
      · exact Or.inr (decide_eq_true h)
      · exact Or.inl (by rw [hx, decide_eq_false (fun e => h e.symm)]; rfl))
    rw [cP_one v hv] at this
    exact this
  have h2 : pc (df a (2 ^ v)) + 1 ≤ pc a := by
    unfold pc
    have := cP_ge (l := List.range 10) (p := fun i => a.testBit i) (q := fun i => (df a (2 ^ v)).testBit i) (r := fun i => decide (i = v)) (fun x _ => by
      rw [df_bit, pow_bit]
      refine ⟨fun h => (Bool.and_eq_true _ _ |>.mp h).1, fun h => by rw [of_decide_eq_true h]; exact hb, fun h => ?_⟩
      have e := of_decide_eq_true h.2
      have h3 := (Bool.and_eq_true _ _ |>.mp h.1).2
      rw [e, decide_eq_true rfl] at h3
      cases h3)
    rw [cP_one v hv] at this
    exact this
  omega
theorem pc_0 : pc 0 = 0 := by decide
theorem pc_pos {a v : Nat} (hv : v < 10) (hb : a.testBit v = true) : 0 < pc a := by have := pc_df1 hv hb; omega
theorem low_some {a : Nat} (h : 0 < pc a) : ∃ v, low a = some v := by
  cases hl : low a with
  | some v => exact ⟨v, rfl⟩
  | none =>
    exfalso
    unfold low at hl
    rw [List.find?_eq_none] at hl
    have : pc a = 0 := by
      unfold pc
      rw [List.countP_eq_zero]
      intro x hx
      exact hl x hx
    omega
theorem pc_al : ∀ n, n ≤ 10 → pc (al n) = n := by decide
theorem nmU_pc {q : Nat → Nat} {i : Nat} : ∀ k, (∀ j, j < k → q (i + j) < 10) → pc (nmU q i k) ≤ k
  | 0, _ => Nat.le_of_eq pc_0
  | k + 1, hq => by
    have h1 := nmU_pc k (fun j hj => hq j (by omega))
    have h2 := pc_or1 (a := nmU q i k) (hq k (by omega))
    unfold nmU
    omega
/-- planting finds a leaf at each step -/
theorem pl_okk {q : Nat → Nat} {n : Nat} (hn : n ≤ 10) (hq : ∀ i, i < n - 2 → q i < n) : ∀ k, k ≤ n - 2 → pc (plL q n k) = n - k ∧ ∀ j, j < k → ∃ v, plV q n j (plL q n j) = some v := by
  intro k
  induction k with
  | zero => exact fun _ => ⟨pc_al n hn, fun j hj => absurd hj (Nat.not_lt_zero j)⟩
  | succ k ih =>
    intro hk
    obtain ⟨h1, h2⟩ := ih (by omega)
    have h3 := nmU_pc (q := q) (i := k) (n - 2 - k) (fun j hj => by have := hq (k + j) (by omega); omega)
    have h4 := pc_sub (a := plL q n k) (b := nmU q k (n - 2 - k))
    obtain ⟨v, hv⟩ := low_some (a := df (plL q n k) (nmU q k (n - 2 - k))) (by omega)
    have hv' : plV q n k (plL q n k) = some v := hv
    have hb := (plV_ok hn (by omega) hv')
    refine ⟨?_, fun j hj => ?_⟩
    · unfold plL
      rw [hv']
      have := pc_df1 (a := plL q n k) (v := v) (by omega) hb.2.1
      show pc (df (plL q n k) (2 ^ v)) = _
      omega
    · by_cases e : j = k
      · rw [e]; exact ⟨v, hv'⟩
      · exact h2 j (by omega)
theorem pl_ok {q : Nat → Nat} {n : Nat} (h1 : 1 ≤ n) (hn : n ≤ 10) (hq : ∀ i, i < n - 2 → q i < n) : plOk q n ∧ ∃ u, low (plL q n (n - 2)) = some u := by
  obtain ⟨h2, h3⟩ := pl_okk hn hq (n - 2) (Nat.le_refl _)
  exact ⟨fun k hk => h3 k hk, low_some (by omega)⟩
theorem plT_lt {q : Nat → Nat} {n : Nat} (h1 : 1 ≤ n) (hn : n ≤ 10) (hq : ∀ i, i < n - 2 → q i < n) : ∀ j, plT q n j < 2 ^ n := by
  obtain ⟨ok, u, hu⟩ := pl_ok h1 hn hq
  have hG := plG_lt hn hq ok (n - 2) (Nat.le_refl _)
  have hun : u < n := bit_lt (plL_lt hn _) (low_bit hu)
  cases hv : low (df (plL q n (n - 2)) (2 ^ u)) with
  | none =>
    have eT : plT q n = plG q n (n - 2) := by unfold plT; rw [hu]; simp only [hv]
    rw [eT]; exact hG
  | some v =>
    have hvb := low_bit hv
    rw [df_bit, Bool.and_eq_true] at hvb
    have eT : plT q n = jn (plG q n (n - 2)) u v := by unfold plT; rw [hu]; simp only [hv]
    rw [eT]; exact jn_lt2 hG hun (bit_lt (plL_lt hn _) hvb.1)
