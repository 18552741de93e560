/-! forests -/
/-- no way leads back to a vertex but by one of its edges -/
def FOR (g : Nat → Nat) (n : Nat) : Prop := GR g n ∧ ∀ v p q, (g v).testBit p = true → (g v).testBit q = true → cn g (fun y => y ≠ v) p q → p = q
theorem max_ex {P : Nat → Prop} {a N : Nat} (h0 : P a) (hb : ∀ r, P r → r < N) : ∃ r, P r ∧ ∀ r', P r' → r' ≤ r := by
  have key : ∀ j r, r + j = N → P r → ∃ r, P r ∧ ∀ r', P r' → r' ≤ r := by
    intro j
    induction j using Nat.strongRecOn with
    | ind j ih =>
      intro r hr hp
      by_cases e : ∃ r', P r' ∧ r < r'
      · obtain ⟨r', h1, h2⟩ := e
        have := hb r' h1
        exact ih (N - r') (by omega) r' (by omega) h1
      · exact ⟨r, hp, fun r' h => by
          rcases Nat.lt_or_ge r r' with q | q
          · exact absurd ⟨r', h, q⟩ e
          · exact q⟩
  exact key (N - a) a (by have := hb a h0; omega) h0
theorem min_ex {P : Nat → Prop} {a : Nat} (h0 : P a) : ∃ r, r ≤ a ∧ P r ∧ ∀ i, i < r → ¬ P i := by
  induction a using Nat.strongRecOn with
  | ind a ih =>
    by_cases e : ∃ i, i < a ∧ P i
    · obtain ⟨i, h1, h2⟩ := e
      obtain ⟨r, h3, h4⟩ := ih i h1 h2
      exact ⟨r, by omega, h4⟩
    · exact ⟨a, Nat.le_refl _, h0, fun i h1 h2 => e ⟨i, h1, h2⟩⟩
theorem pow_of {s q : Nat} (h : ∀ j, s.testBit j = true ↔ j = q) : s = 2 ^ q := by
  apply set_ext
  intro j
  refine bit_eq ?_
  rw [h j, pow_bit]
  exact ⟨fun e => decide_eq_true e.symm, fun e => (of_decide_eq_true e).symm⟩
theorem pc_zero {s : Nat} (hs : s < 1024) (h : pc s = 0) : s = 0 := by
  apply Classical.byContradiction
  intro hne
  have := pc_lt' (a := 0) (b := s) (fun j hj => by rw [Nat.zero_testBit] at hj; cases hj) hs (fun e => hne e.symm)
  omega
theorem pc_1 {s : Nat} (hs : s < 1024) (h : pc s = 1) : ∃ q, q < 10 ∧ s = 2 ^ q ∧ low s = some q := by
  obtain ⟨q, hq⟩ := low_some (a := s) (by omega)
  have h10 := low_lt hq
  have h1 := pc_df1 h10 (low_bit hq)
  have h2 : df s (2 ^ q) = 0 := pc_zero (df_lt (k := 10) hs) (by omega)
  refine ⟨q, h10, ?_, hq⟩
  refine pow_of (fun j => ⟨fun hj => ?_, fun e => by rw [e]; exact low_bit hq⟩)
  have : (df s (2 ^ q)).testBit j = false := by rw [h2, Nat.zero_testBit]
  rw [df_bit, hj, pow_bit] at this
  apply Classical.byContradiction
  intro hne
  rw [decide_eq_false (fun e => hne e.symm)] at this
  cases this
theorem low_of {s v : Nat} (hv : v < 10) (hb : s.testBit v = true) (hn : ∀ k, k < v → s.testBit k = false) : low s = some v := find_range hv hb hn
theorem low_pow {v : Nat} (hv : v < 10) : low (2 ^ v) = some v := low_of hv (by rw [pow_bit, decide_eq_true rfl]) (fun k hk => by rw [pow_bit]; exact decide_eq_false (by omega))
theorem low_min {s v k : Nat} (h : low s = some v) (hk : s.testBit k = true) : v ≤ k := by
  rcases Nat.lt_or_ge k v with q | q
  · have := (List.find?_range_eq_some.mp h).2.2 k q
    rw [hk] at this; cases this
  · exact q
theorem low_ex {s k : Nat} (hk10 : k < 10) (hk : s.testBit k = true) : ∃ v, low s = some v := low_some (pc_pos hk10 hk)
section
variable {g : Nat → Nat} {A B : Nat → Prop} {u v w x y n r p q k i j : Nat}
theorem ds_par (G : GR g n) (hn : n ≤ 10) (hr : r < n) (h : ds g n r v = some (k + 1)) : ∃ p, ds g n r p = some k ∧ (g v).testBit p = true := by
  obtain ⟨p, h1, h2⟩ := ds_cut G hn hr h (show k ≤ k + 1 by omega)
  have hp := ch_lt G hr (ds_ch G hn hr h1)
  rw [show k + 1 - k = 1 by omega] at h2
  obtain ⟨z, h3, h4⟩ := ds_ch G hn hp h2
  rw [← show p = z from h3] at h4
  exact ⟨p, h1, G.sy h4⟩
theorem away (G : GR g n) (hn : n ≤ 10) (hr : r < n) (hrv : r ≠ v) (hv : ds g n r v = some k) (h1 : ds g n r p = some i) (hi : i ≤ k) (hp : p ≠ v) : cn g (fun y => y ≠ v) r p := by
  rcases ch_split hrv i p (ds_ch G hn hr h1) with h | ⟨i', h2, h3, h4⟩
  · exact h
  · exfalso
    have h5 := ((ds_iff G hn hr).mp hv).2
    have : i' = i := by
      rcases Nat.lt_or_ge i' k with q | q
      · exact absurd h3 (h5 i' q)
      · omega
    subst this
    rw [Nat.sub_self] at h4
    exact hp (show v = p from h4).symm
/-- towards a root there is one way alone -/
theorem par_one (F : FOR g n) (hn : n ≤ 10) (hr : r < n) (hv : ds g n r v = some k) (hp : (g v).testBit p = true) (hq : (g v).testBit q = true) (h1 : ds g n r p = some i) (h2 : ds g n r q = some j) (hi : i ≤ k) (hj : j ≤ k) : p = q := by
  have G := F.1
  have hrv : r ≠ v := fun e => by
    subst e
    rw [ds_slf G hn hr] at hv
    cases hv
    have : i = 0 := by omega
    subst this
    have := ds_zero G hn hr h1
    exact G.ne hp this
  have a1 := away G hn hr hrv hv h1 hi (fun e => G.ne hp e.symm)
  have a2 := away G hn hr hrv hv h2 hj (fun e => G.ne hq e.symm)
  exact F.2 v p q hp hq (cn_tr (G.cns a1 hrv) a2)
theorem lev_ne (F : FOR g n) (hn : n ≤ 10) (hr : r < n) (hv : ds g n r v = some k) (hp : (g v).testBit p = true) : ¬ ds g n r p = some k := by
  intro h1
  have G := F.1
  cases k with
  | zero =>
    have e1 := ds_zero G hn hr hv
    have e2 := ds_zero G hn hr h1
    exact G.ne hp (by rw [← e1, ← e2])
  | succ k =>
    obtain ⟨q, h2, h3⟩ := ds_par G hn hr hv
    have := par_one F hn hr hv hp h3 h1 h2 (Nat.le_refl _) (by omega)
    rw [this, h2] at h1
    cases h1
/-- the neighbors of a vertex, seen from a root: one nearer, the others farther -/
theorem lev_or (F : FOR g n) (hn : n ≤ 10) (hr : r < n) (hv : ds g n r v = some k) (hp : (g v).testBit p = true) : ds g n r p = some (k + 1) ∨ (0 < k ∧ ds g n r p = some (k - 1)) := by
  obtain ⟨i, h1, h2, h3⟩ := ds_nb F.1 hn hr hv hp
  have h4 := lev_ne F hn hr hv hp
  have : i ≠ k := fun e => h4 (by rw [← e]; exact h3)
  rcases Nat.lt_or_ge k i with q | q
  · exact Or.inl (by rw [h3]; congr 1; omega)
  · exact Or.inr ⟨by omega, by rw [h3]; congr 1; omega⟩
/-- where there is an edge there is a leaf -/
theorem leaf_ex (F : FOR g n) (hn : n ≤ 10) (h : (g u).testBit w = true) : ∃ v, v < n ∧ pc (g v) = 1 ∧ cn g TT u v := by
  have G := F.1
  have hu := G.lt' h
  obtain ⟨r, ⟨v, hv⟩, hmax⟩ := max_ex (P := fun r => ∃ v, ds g n u v = some r) (a := 0) (N := n) ⟨u, ds_slf G hn hu⟩ (fun r ⟨v, hv⟩ => ds_lt hv)
  obtain ⟨i, -, -, hi⟩ := ds_nb G hn hu (ds_slf G hn hu) h
  have hi0 : i ≠ 0 := fun e => by subst e; exact G.ne h (ds_zero G hn hu hi)
  have hri := hmax i ⟨w, hi⟩
  obtain ⟨k, rfl⟩ : ∃ k, r = k + 1 := ⟨r - 1, by omega⟩
  obtain ⟨p, hp1, hp2⟩ := ds_par G hn hu hv
  have hc := ds_ch G hn hu hv
  refine ⟨v, ch_lt G hu hc, ?_, ch_cn _ _ hc⟩
  have : g v = 2 ^ p := pow_of (fun j => ⟨fun hj => ?_, fun e => by rw [e]; exact hp2⟩)
  · rw [this]; exact pc_pow (by have := G.lt hp2; omega)
  · obtain ⟨a, -, -, ha⟩ := ds_nb G hn hu hv hj
    exact par_one F hn hu hv hj hp2 ha hp1 (hmax a ⟨j, ha⟩) (by omega)
/-! fewer edges, one more edge, places changed -/
theorem FOR.sub {g' : Nat → Nat} (F : FOR g n) (G' : GR g' n) (h : ∀ x y, (g' x).testBit y = true → (g x).testBit y = true) : FOR g' n :=
  ⟨G', fun v p q hp hq hc => F.2 v p q (h v p hp) (h v q hq) (cn_mono hc (fun x y e _ => h x y e) (fun _ a => a))⟩
theorem jn_bit : (jn g u w x).testBit y = true ↔ (g x).testBit y = true ∨ (x = u ∧ y = w) ∨ (x = w ∧ y = u) := by
  unfold jn up1
  by_cases h1 : x = w <;> by_cases h2 : x = u
  · subst h1; subst h2
    simp only [if_true, Nat.testBit_or, Bool.or_eq_true, pow_bit, decide_eq_true_eq]
    constructor
    · rintro ((h | h) | h)
      · exact Or.inl h
      · exact Or.inr (Or.inl ⟨trivial, h.symm⟩)
      · exact Or.inr (Or.inl ⟨trivial, h.symm⟩)
    · rintro (h | h | h)
      · exact Or.inl (Or.inl h)
      · exact Or.inr h.2.symm
      · exact Or.inr h.2.symm
  · subst h1
    simp only [if_true, if_neg h2, Nat.testBit_or, Bool.or_eq_true, pow_bit, decide_eq_true_eq]
    constructor
    · rintro (h | h)
      · exact Or.inl h
      · exact Or.inr (Or.inr ⟨trivial, h.symm⟩)
    · rintro (h | h | h)
      · exact Or.inl h
      · exact absurd h.1 h2
      · exact Or.inr h.2.symm
  · subst h2
    simp only [if_neg h1, if_true, Nat.testBit_or, Bool.or_eq_true, pow_bit, decide_eq_true_eq]
    constructor
    · rintro (h | h)
      · exact Or.inl h
      · exact Or.inr (Or.inl ⟨trivial, h.symm⟩)
    · rintro (h | h | h)
      · exact Or.inl h
      · exact Or.inr h.2.symm
      · exact absurd h.1 h1
  · simp only [if_neg h1, if_neg h2]
    constructor
    · exact Or.inl
    · rintro (h | h | h)
      · exact h
      · exact absurd h.1 h2
      · exact absurd h.1 h1
theorem pt_bit (G : GR g n) : (pt g u w x).testBit y = true ↔ (g x).testBit y = true ∧ ¬ (x = u ∧ y = w) ∧ ¬ (x = w ∧ y = u) := by
  unfold pt up1
  by_cases h1 : x = w <;> by_cases h2 : x = u
  · subst h1; subst h2
    simp only [if_true, df_bit, Bool.and_eq_true, pow_bit]
    have := G.2.2 x
    by_cases e : x = y
    · subst e; simp [this]
    · have e' : ¬ y = x := fun h => e h.symm
      simp [e, e']
  · subst h1
    simp only [if_true, if_neg h2, df_bit, Bool.and_eq_true, pow_bit]
    by_cases e : u = y
    · subst e; simp
    · have e' : ¬ y = u := fun h => e h.symm
      simp [e, e', h2]
  · subst h2
    simp only [if_neg h1, if_true, df_bit, Bool.and_eq_true, pow_bit]
    by_cases e : w = y
    · subst e; simp
    · have e' : ¬ y = w := fun h => e h.symm
      simp [e, e', h1]
  · simp only [if_neg h1, if_neg h2]
    exact ⟨fun h => ⟨h, fun h' => h2 h'.1, fun h' => h1 h'.1⟩, fun h => h.1⟩
theorem GR.of {g : Nat → Nat} (h1 : ∀ x y, (g x).testBit y = true → y < n) (h2 : ∀ x y, (g x).testBit y = true → (g y).testBit x = true) (h3 : ∀ x, ¬ (g x).testBit x = true) : GR g n :=
  ⟨fun i => lt_of_bits (h1 i), fun a b => Bool.eq_iff_iff.mpr ⟨h2 a b, h2 b a⟩, fun a => by
    cases h : (g a).testBit a
    · rfl
    · exact absurd h (h3 a)⟩
theorem GR.jnG (G : GR g n) (hu : u < n) (hw : w < n) (hne : u ≠ w) : GR (jn g u w) n :=
  GR.of (fun x y h => by
      rcases jn_bit.mp h with h | h | h
      · exact G.lt h
      · rw [h.2]; exact hw
      · rw [h.2]; exact hu)
    (fun x y h => jn_bit.mpr (by
      rcases jn_bit.mp h with h | h | h
      · exact Or.inl (G.sy h)
      · exact Or.inr (Or.inr ⟨h.2, h.1⟩)
      · exact Or.inr (Or.inl ⟨h.2, h.1⟩)))
    (fun x h => by
      rcases jn_bit.mp h with h | h | h
      · exact G.ne h rfl
      · exact hne (h.1.symm.trans h.2)
      · exact hne (h.2.symm.trans h.1))
theorem GR.ptG (G : GR g n) : GR (pt g u w) n :=
  GR.of (fun x y h => G.lt ((pt_bit G).mp h).1) (fun x y h => by
    obtain ⟨h1, h2, h3⟩ := (pt_bit G).mp h
    exact (pt_bit G).mpr ⟨G.sy h1, fun e => h3 ⟨e.2, e.1⟩, fun e => h2 ⟨e.2, e.1⟩⟩) (fun x h => G.ne ((pt_bit G).mp h).1 rfl)
theorem FOR.ptF (F : FOR g n) : FOR (pt g u w) n := F.sub F.1.ptG (fun x y h => ((pt_bit F.1).mp h).1)
theorem cn_jn (h : cn (jn g u w) A x y) : cn g A x y ∨ (cn g A x u ∧ A w ∧ cn g A w y) ∨ (cn g A x w ∧ A u ∧ cn g A u y) := by
  refine cn_ind (S := fun y => cn g A x y ∨ (cn g A x u ∧ A w ∧ cn g A w y) ∨ (cn g A x w ∧ A u ∧ cn g A u y)) h (Or.inl cn_rf) (fun a b _ hs e hb => ?_)
  rcases jn_bit.mp e with e | ⟨e1, e2⟩ | ⟨e1, e2⟩
  · rcases hs with h | ⟨h1, h2, h3⟩ | ⟨h1, h2, h3⟩
    · exact Or.inl (cn_st h e hb)
    · exact Or.inr (Or.inl ⟨h1, h2, cn_st h3 e hb⟩)
    · exact Or.inr (Or.inr ⟨h1, h2, cn_st h3 e hb⟩)
  · subst e1; subst e2
    rcases hs with h | ⟨h1, h2, h3⟩ | ⟨h1, h2, h3⟩
    · exact Or.inr (Or.inl ⟨h, hb, cn_rf⟩)
    · exact Or.inr (Or.inl ⟨h1, h2, cn_rf⟩)
    · exact Or.inl h1
  · subst e1; subst e2
    rcases hs with h | ⟨h1, h2, h3⟩ | ⟨h1, h2, h3⟩
    · exact Or.inr (Or.inr ⟨h, hb, cn_rf⟩)
    · exact Or.inl h1
    · exact Or.inr (Or.inr ⟨h1, h2, cn_rf⟩)
theorem GR.e1 (G : GR g n) (h : (g x).testBit y = true) : cn g TT x y := cn_st cn_rf h trivial
theorem GR.cnT (G : GR g n) (h : cn g TT x y) : cn g TT y x := G.cns h trivial
theorem FOR.jnF (F : FOR g n) (hu : u < n) (hw : w < n) (hd : ¬ cn g TT u w) : FOR (jn g u w) n := by
  have G := F.1
  have hne : u ≠ w := fun e => hd (by rw [e]; exact cn_rf)
  refine ⟨G.jnG hu hw hne, ?_⟩
  -- one new edge at v, one old
  have half : ∀ v p q, ((v = u ∧ p = w) ∨ (v = w ∧ p = u)) → (g v).testBit q = true → ¬ cn (jn g u w) (fun y => y ≠ v) p q := by
    intro v p q hp hq hc
    rcases hp with ⟨rfl, rfl⟩ | ⟨rfl, rfl⟩
    · rcases cn_jn hc with h | ⟨h1, h2, h3⟩ | ⟨h1, h2, h3⟩
      · exact hd (cn_tr (G.e1 hq) (G.cnT (cn_TT h)))
      · exact hd (G.cnT (cn_TT h1))
      · exact h2 rfl
    · rcases cn_jn hc with h | ⟨h1, h2, h3⟩ | ⟨h1, h2, h3⟩
      · exact hd (cn_tr (cn_TT h) (G.cnT (G.e1 hq)))
      · exact h2 rfl
      · exact hd (cn_TT h1)
  have GJ := G.jnG hu hw hne
  intro v p q hp hq hc
  rcases jn_bit.mp hp with hp1 | hp1
  · rcases jn_bit.mp hq with hq1 | hq1
    · rcases cn_jn hc with h | ⟨h1, h2, h3⟩ | ⟨h1, h2, h3⟩
      · exact F.2 v p q hp1 hq1 h
      · exact absurd (cn_tr (G.cnT (cn_TT h1)) (cn_tr (G.cnT (G.e1 hp1)) (cn_tr (G.e1 hq1) (G.cnT (cn_TT h3))))) hd
      · exact absurd (cn_tr (cn_TT h3) (cn_tr (G.cnT (G.e1 hq1)) (cn_tr (G.e1 hp1) (cn_TT h1)))) hd
    · exact absurd (GJ.cns hc (fun e => GJ.ne hp e.symm)) (half v q p hq1 hp1)
  · rcases jn_bit.mp hq with hq1 | hq1
    · exact absurd hc (half v p q hp1 hq1)
    · rcases hp1 with ⟨a1, a2⟩ | ⟨a1, a2⟩ <;> rcases hq1 with ⟨b1, b2⟩ | ⟨b1, b2⟩
      · rw [a2, b2]
      · exact absurd (a1.symm.trans b1) hne
      · exact absurd (b1.symm.trans a1) hne
      · rw [a2, b2]
/-- two vertices exchanged -/
def tr (a b v : Nat) : Nat := if v = a then b else if v = b then a else v
theorem tr_tr {a b : Nat} : tr a b (tr a b v) = v := by
  unfold tr
  by_cases h1 : v = a
  · by_cases h2 : b = a <;> simp [h1, h2]
  · by_cases h2 : v = b <;> simp [h1, h2]
theorem tr_lt {a b : Nat} (ha : a < n) (hb : b < n) (hv : v < n) : tr a b v < n := by
  unfold tr
  split
  · exact hb
  · split
    · exact ha
    · exact hv
theorem FOR.trF {g' : Nat → Nat} {a b : Nat} (F : FOR g n) (ha : a < n) (hb : b < n) (h : ∀ x y, (g' x).testBit y = true ↔ (g (tr a b x)).testBit (tr a b y) = true) : FOR g' n := by
  have G := F.1
  refine ⟨GR.of (fun x y e => ?_) (fun x y e => (h y x).mpr (G.sy ((h x y).mp e))) (fun x e => G.ne ((h x x).mp e) rfl), fun v p q hp hq hc => ?_⟩
  · have := G.lt ((h x y).mp e)
    have h2 := tr_lt ha hb this
    rw [tr_tr] at h2; exact h2
  · have key : cn g (fun y => y ≠ tr a b v) (tr a b p) (tr a b q) := by
      refine cn_ind (S := fun y => cn g (fun y => y ≠ tr a b v) (tr a b p) (tr a b y)) hc cn_rf (fun x y _ hs e hy => cn_st hs ((h x y).mp e) (fun e2 => hy ?_))
      rw [← tr_tr (v := y) (a := a) (b := b), e2, tr_tr]
    have := F.2 _ _ _ ((h v p).mp hp) ((h v q).mp hq) key
    rw [← tr_tr (v := p) (a := a) (b := b), this, tr_tr]
theorem FOR.nil : FOR (fun _ => 0) n :=
  ⟨GR.of (fun x y h => by rw [Nat.zero_testBit] at h; cases h) (fun x y h => by rw [Nat.zero_testBit] at h; cases h) (fun x h => by rw [Nat.zero_testBit] at h; cases h), fun v p q h => by rw [Nat.zero_testBit] at h; cases h⟩
/-! counting edges -/
theorem cnU_cP {P : Nat → Bool} : ∀ k, cnU P k = (List.range k).countP P
  | 0 => rfl
  | k + 1 => by
    rw [cnU_s, cnU_cP k, List.range_succ, List.countP_append, List.countP_singleton]
    split <;> rfl
theorem pc_cnU {s : Nat} : pc s = cnU (fun i => s.testBit i) 10 := (cnU_cP 10).symm
theorem cnU_pad {P : Nat → Bool} {k : Nat} : ∀ j, (∀ i, k ≤ i → P i = false) → cnU P (k + j) = cnU P k
  | 0, _ => rfl
  | j + 1, h => by
    show cnU P (k + j + 1) = _
    rw [cnU_s, h (k + j) (by omega), if_neg (by decide)]
    exact cnU_pad j h
theorem pc_cnUn {s : Nat} (hs : s < 2 ^ n) (hn : n ≤ 10) : pc s = cnU (fun i => s.testBit i) n := by
  rw [pc_cnU, show 10 = n + (10 - n) by omega]
  exact cnU_pad (10 - n) (fun i hi => Nat.testBit_lt_two_pow (Nat.lt_of_lt_of_le hs (Nat.pow_le_pow_right (by decide) hi)))
theorem cnU_ext {P Q : Nat → Bool} : ∀ k, (∀ i, i < k → P i = Q i) → cnU P k = cnU Q k
  | 0, _ => rfl
  | k + 1, h => by rw [cnU_s, cnU_s, h k (by omega), cnU_ext k (fun i hi => h i (by omega))]
theorem tsU_ext {e f : Nat → Nat} : ∀ k, (∀ i, i < k → e i = f i) → tsU e k = tsU f k
  | 0, _ => rfl
  | k + 1, h => by
    show tsU e k + e k = tsU f k + f k
    rw [h k (by omega), tsU_ext k (fun i hi => h i (by omega))]
theorem tsU_add {e f : Nat → Nat} : ∀ k, tsU (fun i => e i + f i) k = tsU e k + tsU f k
  | 0 => rfl
  | k + 1 => by
    show tsU (fun i => e i + f i) k + (e k + f k) = tsU e k + e k + (tsU f k + f k)
    rw [tsU_add k]; omega
theorem tsU_cn {P : Nat → Bool} : ∀ k, tsU (fun i => if P i = true then 1 else 0) k = cnU P k
  | 0 => rfl
  | k + 1 => by
    show tsU _ k + (if P k = true then 1 else 0) = _
    rw [tsU_cn k, cnU_s]
    split <;> rfl
theorem tsU_0 : ∀ k, tsU (fun _ => 0) k = 0
  | 0 => rfl
  | k + 1 => by show tsU _ k + 0 = 0; rw [tsU_0 k]
theorem sum_sw {P : Nat → Nat → Bool} {a : Nat} : ∀ b, tsU (fun v => cnU (P v) b) a = tsU (fun w => cnU (fun v => P v w) a) b
  | 0 => tsU_0 a
  | b + 1 => by
    show tsU (fun v => cnU (P v) (b + 1)) a = tsU (fun w => cnU (fun v => P v w) a) b + cnU (fun v => P v b) a
    rw [← sum_sw b, ← tsU_cn (P := fun v => P v b) a, ← tsU_add]
    refine tsU_ext a (fun i _ => ?_)
    rw [cnU_s]
    split <;> rfl
theorem cnU_split {P Q R : Nat → Bool} : ∀ k, (∀ i, i < k → (P i = true ↔ Q i = true ∨ R i = true) ∧ ¬ (Q i = true ∧ R i = true)) → cnU P k = cnU Q k + cnU R k
  | 0, _ => rfl
  | k + 1, h => by
    have ih := cnU_split k (fun i hi => h i (by omega)) (P := P) (Q := Q) (R := R)
    have hk := h k (by omega)
    rw [cnU_s, cnU_s, cnU_s, ih]
    cases h1 : P k <;> cases h2 : Q k <;> cases h3 : R k <;> simp [h1, h2, h3] at hk ⊢ <;> omega
theorem cnU_not {P : Nat → Bool} : ∀ k, cnU (fun i => !P i) k + cnU P k = k
  | 0 => rfl
  | k + 1 => by
    have ih := cnU_not (P := P) k
    rw [cnU_s, cnU_s]
    cases h : P k <;> simp [h] <;> omega
theorem cnU_one {P : Nat → Bool} {i : Nat} : ∀ k, i < k → (∀ j, j < k → (P j = true ↔ j = i)) → cnU P k = 1
  | 0, h, _ => by omega
  | k + 1, h, hp => by
    rw [cnU_s]
    by_cases e : i = k
    · subst e
      rw [if_pos ((hp i (by omega)).mpr rfl)]
      have : cnU P i = 0 := by
        have h2 := cnU_ext (P := P) (Q := fun _ => false) i (fun j hj => by
          cases hb : P j
          · rfl
          · have := (hp j (by omega)).mp hb; omega)
        rw [h2]
        have := cnU_cP (P := fun _ => false) i
        rw [this]; simp
      omega
    · have hk : ¬ P k = true := fun hb => e ((hp k (by omega)).mp hb).symm
      rw [if_neg hk]
      exact cnU_one k (by omega) (fun j hj => hp j (by omega))
theorem cnU_zero {P : Nat → Bool} (k : Nat) (h : ∀ j, j < k → P j = false) : cnU P k = 0 := by
  rw [cnU_cP, List.countP_eq_zero]
  intro x hx
  rw [h x (List.mem_range.mp hx)]; decide
/-- the root of a component, the depth below it -/
def rot (g : Nat → Nat) (n v : Nat) : Nat := (low (comp g n v)).getD 0
def dep (g : Nat → Nat) (n v : Nat) : Nat := (ds g n (rot g n v) v).getD 0
theorem comp_eq (G : GR g n) (hn : n ≤ 10) (hu : u < n) (hc : cn g TT u v) : comp g n u = comp g n v := by
  apply set_ext
  intro j
  have hv := G.into hc hu
  refine bit_eq ?_
  rw [comp_bit G hn hu, comp_bit G hn hv]
  exact ⟨fun h => cn_tr (G.cnT hc) h, fun h => cn_tr hc h⟩
theorem rot_ok (G : GR g n) (hn : n ≤ 10) (hv : v < n) : low (comp g n v) = some (rot g n v) ∧ cn g TT (rot g n v) v ∧ rot g n v ≤ v := by
  obtain ⟨r, hr⟩ := low_ex (s := comp g n v) (k := v) (by omega) ((comp_bit G hn hv).mpr cn_rf)
  have e : rot g n v = r := by unfold rot; rw [hr]; rfl
  rw [e]
  exact ⟨hr, G.cnT ((comp_bit G hn hv).mp (low_bit hr)), low_min hr ((comp_bit G hn hv).mpr cn_rf)⟩
theorem rot_eq (G : GR g n) (hn : n ≤ 10) (hu : u < n) (hc : cn g TT u v) : rot g n u = rot g n v := by unfold rot; rw [comp_eq G hn hu hc]
theorem dep_ok (G : GR g n) (hn : n ≤ 10) (hv : v < n) : ds g n (rot g n v) v = some (dep g n v) := by
  obtain ⟨h1, h2, h3⟩ := rot_ok G hn hv
  obtain ⟨r, hr⟩ := (ds_cn G hn (show rot g n v < n by omega)).mp h2
  unfold dep; rw [hr]; rfl
theorem isR_iff (G : GR g n) (hn : n ≤ 10) (hv : v < n) : isR g n v = true ↔ rot g n v = v := by
  unfold isR
  rw [decide_eq_true_eq, (rot_ok G hn hv).1]
  exact ⟨fun h => Option.some.inj h, fun h => by rw [h]⟩
theorem isR_dep (G : GR g n) (hn : n ≤ 10) (hv : v < n) : isR g n v = true ↔ dep g n v = 0 := by
  rw [isR_iff G hn hv]
  have h := dep_ok G hn hv
  have hr : rot g n v < n := by have := (rot_ok G hn hv).2.2; omega
  refine ⟨fun e => ?_, fun e => ?_⟩
  · rw [e, ds_slf G hn hv] at h
    exact (Option.some.inj h).symm
  · rw [e] at h
    exact ds_zero G hn hr h
/-- the edges of a forest and its roots -/
theorem ends_roots (F : FOR g n) (hn : n ≤ 10) : tsU (fun v => pc (g v)) n + 2 * cnU (isR g n) n = 2 * n := by
  have G := F.1
  obtain ⟨D, hD⟩ : ∃ D, D = dep g n := ⟨_, rfl⟩
  have e1 : tsU (fun v => pc (g v)) n = tsU (fun v => cnU (fun p => (g v).testBit p && decide (D p < D v)) n) n + tsU (fun v => cnU (fun p => (g v).testBit p && decide (D v < D p)) n) n := by
    rw [← tsU_add]
    refine tsU_ext n (fun v hv => ?_)
    rw [pc_cnUn (G.1 v) hn]
    refine cnU_split n (fun p hp => ?_)
    have hne : (g v).testBit p = true → D p ≠ D v := fun h e => by
      have h1 := dep_ok G hn hv
      have h2 := dep_ok G hn hp
      rw [← rot_eq G hn hv (G.e1 h), ← hD, e] at h2
      rw [← hD] at h1
      exact lev_ne F hn (by have := (rot_ok G hn hv).2.2; omega) h1 h h2
    constructor
    · constructor
      · intro h
        have h2 := hne h
        rcases Nat.lt_or_ge (D p) (D v) with q | q
        · exact Or.inl (by rw [h, decide_eq_true q]; rfl)
        · exact Or.inr (by rw [h, decide_eq_true (by omega)]; rfl)
      · rintro (h | h)
        · exact (Bool.and_eq_true _ _ |>.mp h).1
        · exact (Bool.and_eq_true _ _ |>.mp h).1
    · rintro ⟨h1, h2⟩
      have a1 := of_decide_eq_true (Bool.and_eq_true _ _ |>.mp h1).2
      have a2 := of_decide_eq_true (Bool.and_eq_true _ _ |>.mp h2).2
      omega
  have e2 : tsU (fun v => cnU (fun p => (g v).testBit p && decide (D v < D p)) n) n = tsU (fun v => cnU (fun p => (g v).testBit p && decide (D p < D v)) n) n := by
    rw [sum_sw n]
    refine tsU_ext n (fun v _ => cnU_ext n (fun p _ => ?_))
    rw [G.2.1 p v]
  have e3 : tsU (fun v => cnU (fun p => (g v).testBit p && decide (D p < D v)) n) n = cnU (fun v => !isR g n v) n := by
    rw [← tsU_cn n]
    refine tsU_ext n (fun v hv => ?_)
    have h1 := dep_ok G hn hv
    have hr : rot g n v < n := by have := (rot_ok G hn hv).2.2; omega
    by_cases hz : dep g n v = 0
    · have : isR g n v = true := (isR_dep G hn hv).mpr hz
      rw [this]
      refine cnU_zero n (fun p hp => ?_)
      rw [hD, hz, decide_eq_false (Nat.not_lt_zero _), Bool.and_false]
    · have : isR g n v = false := by
        cases hb : isR g n v
        · rfl
        · exact absurd ((isR_dep G hn hv).mp hb) hz
      rw [this]
      obtain ⟨k, hk⟩ : ∃ k, dep g n v = k + 1 := ⟨dep g n v - 1, by omega⟩
      rw [hk] at h1
      obtain ⟨p, hp1, hp2⟩ := ds_par G hn hr h1
      have hdp : ∀ q, (g v).testBit q = true → ds g n (rot g n v) q = some (D q) := fun q hq => by
        have := dep_ok G hn (G.lt hq)
        rw [← rot_eq G hn hv (G.e1 hq), ← hD] at this
        exact this
      refine cnU_one n (G.lt hp2) (fun q hq => ⟨fun h => ?_, fun e => ?_⟩)
      · obtain ⟨h2, h3⟩ := Bool.and_eq_true _ _ |>.mp h
        have h4 := of_decide_eq_true h3
        rw [show D v = k + 1 by rw [hD]; exact hk] at h4
        exact par_one F hn hr h1 h2 hp2 (hdp q h2) hp1 (by omega) (by omega)
      · subst e
        have h4 := hdp q hp2
        rw [hp1] at h4
        have h4 := Option.some.inj h4
        rw [hp2, decide_eq_true (by rw [← h4, hD, hk]; omega)]; rfl
  have e4 := cnU_not (P := isR g n) n
  omega
theorem ed_roots (F : FOR g n) (hn : n ≤ 10) : ed g n + cnU (isR g n) n = n := by
  have := ends_roots F hn
  unfold ed
  omega
theorem ends_ed (F : FOR g n) (hn : n ≤ 10) : tsU (fun v => pc (g v)) n = 2 * ed g n := by
  have := ends_roots F hn
  unfold ed
  omega
theorem mR_isR (G : GR g n) (hn : n ≤ 10) (hv : v < n) : mR g n v = isR g n v := by
  unfold mR
  rw [mc_comp G hn hv, lz_low]
  unfold isR
  rw [(rot_ok G hn hv).1]
  apply Bool.eq_iff_iff.mpr
  rw [decide_eq_true_eq, decide_eq_true_eq]
  exact ⟨fun h => congrArg some h, fun h => Option.some.inj h⟩
/-- what a tree is -/
def TR (g : Nat → Nat) (n : Nat) : Prop := ∀ v, v < n → cn g TT 0 v
theorem tr_iff (F : FOR g n) (hn : n ≤ 10) (h1 : 1 ≤ n) : n - ed g n = 1 ↔ TR g n := by
  have G := F.1
  have he := ed_roots F hn
  have h0 : isR g n 0 = true := (isR_iff G hn (by omega)).mpr (by have := (rot_ok G hn (show 0 < n by omega)).2.2; omega)
  refine ⟨fun h v hv => ?_, fun h => ?_⟩
  · have hc : cnU (isR g n) n = 1 := by omega
    obtain ⟨a1, a2, a3⟩ := rot_ok G hn hv
    have hr : isR g n (rot g n v) = true := (isR_iff G hn (by omega)).mpr (rot_eq G hn (by omega) a2)
    have : rot g n v = 0 := by
      apply Classical.byContradiction
      intro hne
      have hs := cnU_split (P := isR g n) (Q := fun i => decide (i = 0)) (R := fun i => isR g n i && decide (i ≠ 0)) n (fun i hi => by
        constructor
        · constructor
          · intro q
            by_cases e : i = 0
            · exact Or.inl (decide_eq_true e)
            · exact Or.inr (by rw [q, decide_eq_true e]; rfl)
          · rintro (q | q)
            · rw [of_decide_eq_true q]; exact h0
            · exact (Bool.and_eq_true _ _ |>.mp q).1
        · rintro ⟨q1, q2⟩
          exact of_decide_eq_true (Bool.and_eq_true _ _ |>.mp q2).2 (of_decide_eq_true q1))
      rw [cnU_one (P := fun i => decide (i = 0)) (i := 0) n (by omega) (fun j _ => decide_eq_true_iff)] at hs
      have hz : cnU (fun i => isR g n i && decide (i ≠ 0)) n = 0 := by omega
      rw [cnU_cP, List.countP_eq_zero] at hz
      apply hz (rot g n v) (List.mem_range.mpr (by omega))
      rw [hr, decide_eq_true hne]; rfl
    rw [this] at a2; exact a2
  · have : cnU (isR g n) n = 1 := cnU_one (i := 0) n (by omega) (fun j hj => ⟨fun q => ?_, fun e => by rw [e]; exact h0⟩)
    · omega
    · have e1 := (isR_iff G hn hj).mp q
      have e2 := rot_eq G hn (show 0 < n by omega) (h j hj)
      rw [e1] at e2
      have := (rot_ok G hn (show 0 < n by omega)).2.2
      omega
theorem TR.cnT (T : TR g n) (G : GR g n) (hu : u < n) (hv : v < n) : cn g TT u v := cn_tr (G.cnT (T u hu)) (T v hv)
theorem tr_al (G : GR g n) (hn : n ≤ 10) (h1 : 1 ≤ n) : comp g n 0 = al n ↔ TR g n := by
  refine ⟨fun h v hv => (comp_bit G hn (by omega)).mp (by rw [h, al_bit]; exact decide_eq_true hv), fun h => ?_⟩
  apply set_ext
  intro j
  refine bit_eq ?_
  rw [comp_bit G hn (by omega), al_bit, decide_eq_true_eq]
  exact ⟨fun q => G.into q (by omega), fun q => h j q⟩
end
