section
variable {g : Nat → Nat} {A B : Nat → Prop} {a b u v w x y n r p q k i j : Nat}
/-! places exchanged -/
theorem exU_bit : ∀ k v y, (exU a b g k v).testBit y = if v < k then (g v).testBit (tr a b y) else (g v).testBit y
  | 0, v, y => by rw [if_neg (Nat.not_lt_zero v)]; rfl
  | k + 1, v, y => by
    have hk : ∀ y, (exU a b g k k).testBit y = (g k).testBit y := fun y => by rw [exU_bit k k y, if_neg (Nat.lt_irrefl k)]
    unfold exU
    by_cases e : v = k
    · subst e
      rw [if_pos (show v < v + 1 by omega)]
      split
      · rename_i h
        rw [hk, hk] at h
        rw [hk]
        unfold tr
        by_cases h1 : y = a
        · rw [if_pos h1, h1, h]
        · rw [if_neg h1]
          by_cases h2 : y = b
          · rw [if_pos h2, h2, h]
          · rw [if_neg h2]
      · rename_i h
        rw [hk, hk] at h
        rw [up1_same, Nat.testBit_xor, Nat.testBit_or, pow_bit, pow_bit, hk]
        unfold tr
        have hab : a ≠ b := fun e => h (by rw [e])
        by_cases h1 : y = a
        · subst h1
          rw [if_pos rfl, decide_eq_true rfl, decide_eq_false (fun e => hab e.symm)]
          cases h3 : (g v).testBit y <;> cases h4 : (g v).testBit b
          · rw [h3, h4] at h; exact absurd rfl h
          · rfl
          · rfl
          · rw [h3, h4] at h; exact absurd rfl h
        · rw [if_neg h1]
          by_cases h2 : y = b
          · subst h2
            rw [if_pos rfl, decide_eq_true rfl, decide_eq_false hab]
            cases h3 : (g v).testBit y <;> cases h4 : (g v).testBit a
            · rw [h3, h4] at h; exact absurd rfl h
            · rfl
            · rfl
            · rw [h3, h4] at h; exact absurd rfl h
          · rw [if_neg h2, decide_eq_false (fun e => h1 e.symm), decide_eq_false (fun e => h2 e.symm)]
            simp
    · have h1 : (if (exU a b g k k).testBit a = (exU a b g k k).testBit b then exU a b g k else up1 (exU a b g k) k (exU a b g k k ^^^ (2 ^ a ||| 2 ^ b))) v = exU a b g k v := by
        split
        · rfl
        · exact up1_ne _ _ e
      rw [h1, exU_bit k v y]
      by_cases h2 : v < k
      · rw [if_pos h2, if_pos (by omega)]
      · rw [if_neg h2, if_neg (by omega)]
theorem xg_bit (G : GR g n) (ha : a < n) (hb : b < n) : (xg g n a b x).testBit y = (g (tr a b x)).testBit (tr a b y) := by
  unfold xg
  by_cases h1 : x = b
  · subst h1
    rw [up1_same, exU_bit, if_pos ha]
    congr 2
    unfold tr
    by_cases e : x = a
    · rw [if_pos e, e]
    · rw [if_neg e, if_pos rfl]
  · rw [up1_ne _ _ h1]
    by_cases h2 : x = a
    · subst h2
      rw [up1_same, exU_bit, if_pos hb]
      congr 2
      unfold tr
      rw [if_pos rfl]
    · rw [up1_ne _ _ h2, exU_bit]
      have e : tr a b x = x := by unfold tr; rw [if_neg h2, if_neg h1]
      rw [e]
      by_cases h3 : x < n
      · rw [if_pos h3]
      · rw [if_neg h3]
        have : ∀ z, (g x).testBit z = false := fun z => by
          cases h : (g x).testBit z
          · rfl
          · exact absurd (G.lt' h) h3
        rw [this, this]
theorem FOR.xgF (F : FOR g n) (ha : a < n) (hb : b < n) : FOR (xg g n a b) n := F.trF ha hb (fun x y => by rw [xg_bit F.1 ha hb])
/-! planting -/
theorem cn_nil (h : cn (fun _ => 0) A x y) : x = y := cn_ind (S := fun y => x = y) h rfl (fun a b _ _ e _ => by rw [Nat.zero_testBit] at e; cases e)
theorem cn_up (h : cn g A x y) : cn (jn g u w) A x y := cn_mono h (fun _ _ e _ => jn_bit.mpr (Or.inl e)) (fun _ a => a)
theorem pl_inv {q : Nat → Nat} (hn : n ≤ 10) (hq : ∀ i, i < n - 2 → q i < n) (ok : plOk q n) : ∀ k, k ≤ n - 2 → FOR (plG q n k) n ∧ (∀ x y, (plL q n k).testBit x = true → (plL q n k).testBit y = true → cn (plG q n k) TT x y → x = y) ∧ (∀ x, x < n → ∃ y, (plL q n k).testBit y = true ∧ cn (plG q n k) TT x y) ∧ ∀ j, k ≤ j → j < n - 2 → (plL q n k).testBit (q j) = true := by
  intro k
  induction k with
  | zero =>
    intro _
    refine ⟨FOR.nil, fun x y _ _ h => cn_nil h, fun x hx => ⟨x, ?_, cn_rf⟩, fun j _ hj => ?_⟩
    · show (al n).testBit x = true
      rw [al_bit]; exact decide_eq_true hx
    · show (al n).testBit (q j) = true
      rw [al_bit]; exact decide_eq_true (hq j hj)
  | succ k ih =>
    intro hk
    obtain ⟨i1, i2, i3, i4⟩ := ih (by omega)
    obtain ⟨v, hv⟩ := ok k (by omega)
    obtain ⟨v1, v2, v3, v4⟩ := plV_ok hn (show k < n - 2 by omega) hv
    have eG : plG q n (k + 1) = jn (plG q n k) v (q k) := by
      show jn (plG q n k) ((plV q n k (plL q n k)).getD 0) (q k) = _
      rw [hv]; rfl
    have eL : plL q n (k + 1) = df (plL q n k) (2 ^ v) := by
      show df (plL q n k) (2 ^ (plV q n k (plL q n k)).getD 0) = _
      rw [hv]; rfl
    have hL : ∀ z, (df (plL q n k) (2 ^ v)).testBit z = true ↔ (plL q n k).testBit z = true ∧ z ≠ v := fun z => by
      rw [df_bit, pow_bit, Bool.and_eq_true]
      by_cases e : v = z
      · subst e; simp
      · have e' : z ≠ v := fun h => e h.symm
        simp [e, e']
    have hqk := i4 k (Nat.le_refl _) (by omega)
    rw [eG, eL]
    refine ⟨i1.jnF v1 (hq k (by omega)) (fun h => v4 (i2 v (q k) v2 hqk h)), fun x y hx hy h => ?_, fun x hx => ?_, fun j h1 h2 => ?_⟩
    · obtain ⟨x1, x2⟩ := (hL x).mp hx
      obtain ⟨y1, y2⟩ := (hL y).mp hy
      rcases cn_jn h with h | ⟨h1, -, h2⟩ | ⟨h1, -, h2⟩
      · exact i2 x y x1 y1 h
      · exact absurd (i2 x v x1 v2 h1) x2
      · exact absurd (i2 v y v2 y1 h2).symm y2
    · obtain ⟨y, y1, y2⟩ := i3 x hx
      by_cases e : y = v
      · subst e
        exact ⟨q k, (hL _).mpr ⟨hqk, fun e => v4 e.symm⟩, cn_st (cn_up y2) (jn_bit.mpr (Or.inr (Or.inl ⟨rfl, rfl⟩))) trivial⟩
      · exact ⟨y, (hL _).mpr ⟨y1, e⟩, cn_up y2⟩
    · refine (hL _).mpr ⟨i4 j (by omega) h2, fun e => ?_⟩
      have := nm_bit (q := q) (i := k) (n - 2 - k) (j - k) (by omega)
      rw [show k + (j - k) = j by omega, e, v3] at this
      cases this
theorem pl_tree {q : Nat → Nat} (h1 : 1 ≤ n) (hn : n ≤ 10) (hq : ∀ i, i < n - 2 → q i < n) : FOR (plT q n) n ∧ TR (plT q n) n := by
  obtain ⟨ok, u, hu⟩ := pl_ok h1 hn hq
  obtain ⟨i1, i2, i3, -⟩ := pl_inv hn hq ok (n - 2) (Nat.le_refl _)
  have hpc := (pl_okk hn hq (n - 2) (Nat.le_refl _)).1
  have hub := low_bit hu
  have hu10 := low_lt hu
  have hll := plL_lt (q := q) hn (n - 2)
  have hun : u < n := bit_lt hll hub
  have hd := pc_df1 hu10 hub
  cases hv : low (df (plL q n (n - 2)) (2 ^ u)) with
  | none =>
    have eT : plT q n = plG q n (n - 2) := by unfold plT; rw [hu]; simp only [hv]
    rw [eT]
    refine ⟨i1, fun v hvn => ?_⟩
    have hn1 : n = 1 := by
      rcases Nat.lt_or_ge 1 n with h | h
      · obtain ⟨v, hv'⟩ := low_some (a := df (plL q n (n - 2)) (2 ^ u)) (by omega)
        rw [hv] at hv'; cases hv'
      · omega
    have : v = 0 := by omega
    rw [this]; exact cn_rf
  | some v =>
    have eT : plT q n = jn (plG q n (n - 2)) u v := by unfold plT; rw [hu]; simp only [hv]
    have hvb := low_bit hv
    rw [df_bit, pow_bit, Bool.and_eq_true, Bool.not_eq_true', decide_eq_false_iff_not] at hvb
    have hvn : v < n := bit_lt hll hvb.1
    have hF := i1.jnF hun hvn (fun h => hvb.2 (i2 u v hub hvb.1 h))
    rw [eT]
    refine ⟨hF, ?_⟩
    have huv : cn (jn (plG q n (n - 2)) u v) TT u v := cn_st cn_rf (jn_bit.mpr (Or.inr (Or.inl ⟨rfl, rfl⟩))) trivial
    have hcov : ∀ x, x < n → cn (jn (plG q n (n - 2)) u v) TT x u := fun x hx => by
      obtain ⟨y, y1, y2⟩ := i3 x hx
      have hyuv : y = u ∨ y = v := by
        apply Classical.byContradiction
        intro hne
        have h3 : (df (df (plL q n (n - 2)) (2 ^ u)) (2 ^ v)).testBit y = true := by
          rw [df_bit, df_bit, pow_bit, pow_bit, y1, decide_eq_false (fun e => hne (Or.inl e.symm)), decide_eq_false (fun e => hne (Or.inr e.symm))]; rfl
        have h4 := pc_pos (by have := bit_lt hll y1; omega) h3
        have h5 := pc_df1 (low_lt hv) (low_bit hv)
        by_cases hn2 : 2 ≤ n
        · omega
        · have : u = v := by omega
          exact hvb.2 this
      rcases hyuv with e | e
      · rw [← e]; exact cn_up y2
      · exact cn_tr (by rw [← e]; exact cn_up y2) (hF.1.cnT huv)
    exact fun x hx => cn_tr (hcov 0 (by omega)) (hF.1.cnT (hcov x hx))
/-! taking a code -/
/-- the forest on a part of the vertices -/
def rg (g : Nat → Nat) (L x : Nat) : Nat := if L.testBit x = true then g x &&& L else 0
theorem rg_bit {L : Nat} : (rg g L x).testBit y = true ↔ (g x).testBit y = true ∧ L.testBit x = true ∧ L.testBit y = true := by
  unfold rg
  by_cases h : L.testBit x = true
  · rw [if_pos h, Nat.testBit_and, Bool.and_eq_true]
    exact ⟨fun q => ⟨q.1, h, q.2⟩, fun q => ⟨q.1, q.2.2⟩⟩
  · rw [if_neg h, Nat.zero_testBit]
    exact ⟨fun q => (by cases q), fun q => absurd q.2.1 h⟩
theorem FOR.rgF (F : FOR g n) {L : Nat} : FOR (rg g L) n :=
  F.sub (GR.of (fun x y h => F.1.lt (rg_bit.mp h).1) (fun x y h => by
    obtain ⟨h1, h2, h3⟩ := rg_bit.mp h
    exact rg_bit.mpr ⟨F.1.sy h1, h3, h2⟩) (fun x h => F.1.ne (rg_bit.mp h).1 rfl)) (fun x y h => (rg_bit.mp h).1)
theorem cn_first (h : cn g A x y) : x = y ∨ ∃ z, (g x).testBit z = true := by
  refine cn_ind (S := fun y => x = y ∨ ∃ z, (g x).testBit z = true) h (Or.inl rfl) (fun a b _ hs e _ => ?_)
  rcases hs with h1 | h1
  · subst h1; exact Or.inr ⟨b, e⟩
  · exact Or.inr h1
theorem rg_lf {L : Nat} (hL : L < 2 ^ n) (h : ∃ v, pc (rg g L v) = 1) : ∃ v, lf g n L = some v ∧ L.testBit v = true ∧ pc (g v &&& L) = 1 := by
  obtain ⟨v, hv⟩ := h
  have h1 : L.testBit v = true := by
    cases hb : L.testBit v
    · unfold rg at hv
      rw [hb, if_neg (by decide), pc_0] at hv; cases hv
    · rfl
  have h2 : pc (g v &&& L) = 1 := by
    unfold rg at hv
    rw [if_pos h1] at hv; exact hv
  cases hl : lf g n L with
  | some z =>
    have := List.find?_some hl
    rw [Bool.and_eq_true, decide_eq_true_eq] at this
    exact ⟨z, rfl, this.1, this.2⟩
  | none =>
    unfold lf at hl
    rw [List.find?_eq_none] at hl
    exact absurd (by rw [h1, decide_eq_true h2]; rfl) (hl v (List.mem_range.mpr (bit_lt hL h1)))
theorem rg_pt (F : FOR g n) {L : Nat} (hn : n ≤ 10) (hv : L.testBit v = true) (h1 : pc (g v &&& L) = 1) (hu : low (g v &&& L) = some u) : pt (rg g L) v u = rg g (df L (2 ^ v)) ∧ (∀ z, (rg g L v).testBit z = true ↔ z = u) := by
  have G := F.1
  have hg10 : g v &&& L < 1024 := and_lt (G.k hn v)
  obtain ⟨q, q1, q2, q3⟩ := pc_1 hg10 h1
  rw [hu] at q3; cases q3
  have hz : ∀ z, (rg g L v).testBit z = true ↔ z = u := fun z => by
    unfold rg
    rw [if_pos hv, q2, pow_bit, decide_eq_true_eq]
    exact ⟨Eq.symm, Eq.symm⟩
  have GL := (F.rgF (L := L)).1
  refine ⟨funext fun x => set_ext fun y => bit_eq ?_, hz⟩
  rw [pt_bit GL, rg_bit, rg_bit, df_bit, df_bit, pow_bit, pow_bit]
  have hd : ∀ z, (L.testBit z && !decide (v = z)) = true ↔ L.testBit z = true ∧ z ≠ v := fun z => by
    by_cases e : v = z
    · subst e; simp
    · have e' : z ≠ v := fun h => e h.symm
      simp [e, e']
  rw [hd, hd]
  constructor
  · rintro ⟨⟨a1, a2, a3⟩, b1, b2⟩
    refine ⟨a1, ⟨a2, fun e => ?_⟩, a3, fun e => ?_⟩
    · subst e
      exact b1 ⟨rfl, (hz y).mp (rg_bit.mpr ⟨a1, a2, a3⟩)⟩
    · subst e
      exact b2 ⟨(hz x).mp (rg_bit.mpr ⟨G.sy a1, a3, a2⟩), rfl⟩
  · rintro ⟨a1, ⟨a2, a3⟩, a4, a5⟩
    exact ⟨⟨a1, a2, a4⟩, fun e => a3 e.1, fun e => a5 e.2⟩
theorem tk_inv (F : FOR g n) (hn : n ≤ 10) (T : TR g n) : ∀ k, k ≤ n - 2 → tkL g n k < 2 ^ n ∧ pc (tkL g n k) + k = n ∧ (∀ x y, (tkL g n k).testBit x = true → (tkL g n k).testBit y = true → cn (rg g (tkL g n k)) TT x y) ∧ (k < n - 2 → ∃ v u, lf g n (tkL g n k) = some v ∧ low (g v &&& tkL g n k) = some u ∧ (tkL g n k).testBit v = true ∧ pc (g v &&& tkL g n k) = 1) := by
  have G := F.1
  have step : ∀ k, k < n - 2 → tkL g n k < 2 ^ n → pc (tkL g n k) + k = n → (∀ x y, (tkL g n k).testBit x = true → (tkL g n k).testBit y = true → cn (rg g (tkL g n k)) TT x y) → ∃ v u, lf g n (tkL g n k) = some v ∧ low (g v &&& tkL g n k) = some u ∧ (tkL g n k).testBit v = true ∧ pc (g v &&& tkL g n k) = 1 := by
    intro k hk h1 h2 h3
    obtain ⟨x, hx⟩ := low_some (a := tkL g n k) (by omega)
    have hx1 := pc_df1 (low_lt hx) (low_bit hx)
    obtain ⟨y, hy⟩ := low_some (a := df (tkL g n k) (2 ^ x)) (by omega)
    have hyb := low_bit hy
    rw [df_bit, pow_bit, Bool.and_eq_true, Bool.not_eq_true', decide_eq_false_iff_not] at hyb
    rcases cn_first (h3 x y (low_bit hx) hyb.1) with e | ⟨z, hz⟩
    · exact absurd e hyb.2
    · obtain ⟨v, v1, v2, -⟩ := leaf_ex (F.rgF (L := tkL g n k)) hn hz
      obtain ⟨v', a1, a2, a3⟩ := rg_lf (g := g) h1 ⟨v, v2⟩
      obtain ⟨u, u1, u2, u3⟩ := pc_1 (and_lt (G.k hn v')) a3
      exact ⟨v', u, a1, u3, a2, a3⟩
  intro k
  induction k with
  | zero =>
    intro hk
    have h1 : tkL g n 0 < 2 ^ n := Nat.sub_lt (Nat.two_pow_pos n) (by decide)
    have h2 : pc (tkL g n 0) + 0 = n := pc_al n hn
    have h3 : ∀ x y, (tkL g n 0).testBit x = true → (tkL g n 0).testBit y = true → cn (rg g (tkL g n 0)) TT x y := fun x y hx hy => by
      have hx' : (al n).testBit x = true := hx
      have hy' : (al n).testBit y = true := hy
      rw [al_bit, decide_eq_true_eq] at hx' hy'
      refine cn_mono (T.cnT G hx' hy') (fun a b e _ => rg_bit.mpr ⟨e, ?_, ?_⟩) (fun _ a => a)
      · show (al n).testBit a = true
        rw [al_bit]; exact decide_eq_true (G.lt' e)
      · show (al n).testBit b = true
        rw [al_bit]; exact decide_eq_true (G.lt e)
    exact ⟨h1, h2, h3, fun hk => step 0 hk h1 h2 h3⟩
  | succ k ih =>
    intro hk
    obtain ⟨h1, h2, h3, h4⟩ := ih (by omega)
    obtain ⟨v, u, a1, a2, a3, a4⟩ := h4 (by omega)
    have eL : tkL g n (k + 1) = df (tkL g n k) (2 ^ v) := by
      show df (tkL g n k) (2 ^ (lf g n (tkL g n k)).getD 0) = _
      rw [a1]; rfl
    obtain ⟨hpt, hz⟩ := rg_pt F hn a3 a4 a2
    have hv10 : v < 10 := by have := bit_lt h1 a3; omega
    have b1 : tkL g n (k + 1) < 2 ^ n := by rw [eL]; exact df_lt h1
    have b2 : pc (tkL g n (k + 1)) + (k + 1) = n := by
      rw [eL]
      have := pc_df1 hv10 a3
      omega
    have hd : ∀ z, (df (tkL g n k) (2 ^ v)).testBit z = true ↔ (tkL g n k).testBit z = true ∧ z ≠ v := fun z => by
      rw [df_bit, pow_bit]
      by_cases e : v = z
      · subst e; simp
      · have e' : z ≠ v := fun h => e h.symm
        simp [e, e']
    have b3 : ∀ x y, (tkL g n (k + 1)).testBit x = true → (tkL g n (k + 1)).testBit y = true → cn (rg g (tkL g n (k + 1))) TT x y := fun x y hx hy => by
      rw [eL] at hx hy ⊢
      obtain ⟨x1, x2⟩ := (hd x).mp hx
      obtain ⟨y1, y2⟩ := (hd y).mp hy
      have key := cn_ind (S := fun y => (y ≠ v → cn (rg g (df (tkL g n k) (2 ^ v))) TT x y) ∧ (y = v → cn (rg g (df (tkL g n k) (2 ^ v))) TT x u)) (h3 x y x1 y1) ⟨fun _ => cn_rf, fun e => absurd e x2⟩ (fun a b _ hs e _ => ?_)
      · exact key.1 y2
      · obtain ⟨e1, e2, e3⟩ := rg_bit.mp e
        refine ⟨fun hb => ?_, fun hb => ?_⟩
        · by_cases ha : a = v
          · subst ha
            have : b = u := (hz b).mp e
            rw [this]; exact hs.2 rfl
          · exact cn_st (hs.1 ha) (rg_bit.mpr ⟨e1, (hd a).mpr ⟨e2, ha⟩, (hd b).mpr ⟨e3, hb⟩⟩) trivial
        · subst hb
          have hau : a = u := (hz a).mp (rg_bit.mpr ⟨G.sy e1, e3, e2⟩)
          have : a ≠ b := G.ne e1
          rw [← hau]; exact hs.1 this
    exact ⟨b1, b2, b3, fun hk => step (k + 1) hk b1 b2 b3⟩
theorem tk_ok (F : FOR g n) (hn : n ≤ 10) (T : TR g n) : tkOk g n := fun k hk => by
  obtain ⟨v, u, h1, h2, -⟩ := (tk_inv F hn T k (by omega)).2.2.2 hk
  exact ⟨v, u, h1, h2⟩
/-! pruning -/
theorem tsU_dec {e f : Nat → Nat} {i : Nat} (hi : f i + 1 = e i) : ∀ k, i < k → (∀ j, j ≠ i → f j = e j) → tsU f k + 1 = tsU e k
  | 0, h, _ => by omega
  | k + 1, h, he => by
    show tsU f k + f k + 1 = tsU e k + e k
    by_cases q : i = k
    · subst q
      have := tsU_ext (e := f) (f := e) i (fun j hj => he j (by omega))
      omega
    · have := tsU_dec hi k (by omega) he
      have h2 := he k (fun e => q e.symm)
      omega
theorem pt_pc (G : GR g n) (hn : n ≤ 10) (h : (g u).testBit w = true) : tsU (fun v => pc (pt g u w v)) n + 2 = tsU (fun v => pc (g v)) n := by
  have hne := G.ne h
  have hu := G.lt' h
  have hw := G.lt h
  have e1 : tsU (fun v => pc (up1 g u (df (g u) (2 ^ w)) v)) n + 1 = tsU (fun v => pc (g v)) n := by
    refine tsU_dec (i := u) ?_ n hu (fun j hj => ?_)
    · show pc (up1 g u _ u) + 1 = pc (g u)
      rw [up1_same]; exact pc_df1 (by omega) h
    · show pc (up1 g u _ j) = pc (g j)
      rw [up1_ne _ _ hj]
  have e2 : tsU (fun v => pc (pt g u w v)) n + 1 = tsU (fun v => pc (up1 g u (df (g u) (2 ^ w)) v)) n := by
    refine tsU_dec (i := w) ?_ n hw (fun j hj => ?_)
    · show pc (up1 _ w _ w) + 1 = pc (up1 g u _ w)
      rw [up1_same, up1_ne _ _ (fun e => hne e.symm)]
      exact pc_df1 (by omega) (G.sy h)
    · show pc (up1 _ w _ j) = pc (up1 g u _ j)
      rw [up1_ne _ _ hj]
  omega
/-- how many edges went -/
def goU (L : Nat) (g : Nat → Nat) : Nat → Nat
  | 0 => 0
  | k + 1 => if L.testBit k = true then (if low (dlU L g k k) = none then goU L g k else goU L g k + 1) else goU L g k
theorem goU_s {L : Nat} {g : Nat → Nat} {k : Nat} : goU L g (k + 1) = if L.testBit k = true then (if low (dlU L g k k) = none then goU L g k else goU L g k + 1) else goU L g k := rfl
theorem dlU_s {L : Nat} {g : Nat → Nat} {k : Nat} : dlU L g (k + 1) = if L.testBit k = true then (match low (dlU L g k k) with
    | some u => pt (dlU L g k) k u
    | none => dlU L g k) else dlU L g k := rfl
theorem dlU_F (F : FOR g n) {L : Nat} : ∀ k, FOR (dlU L g k) n
  | 0 => F
  | k + 1 => by
    unfold dlU
    split
    · split
      · exact (dlU_F F k).ptF
      · exact dlU_F F k
    · exact dlU_F F k
theorem goU_ends (F : FOR g n) (hn : n ≤ 10) {L : Nat} : ∀ k, tsU (fun v => pc (dlU L g k v)) n + 2 * goU L g k = tsU (fun v => pc (g v)) n
  | 0 => rfl
  | k + 1 => by
    have ih := goU_ends F hn (L := L) k
    rw [goU_s, dlU_s]
    by_cases hb : L.testBit k = true
    · rw [if_pos hb, if_pos hb]
      cases hl : low (dlU L g k k) with
      | none => rw [if_pos rfl]; exact ih
      | some u =>
        rw [if_neg (by intro e; cases e)]
        have := pt_pc (dlU_F F k).1 hn (low_bit hl)
        show tsU (fun v => pc (pt (dlU L g k) k u v)) n + 2 * (goU L g k + 1) = _
        omega
    · rw [if_neg hb, if_neg hb]; exact ih
theorem goU_mono {L : Nat} : ∀ j k, goU L g k ≤ goU L g (k + j)
  | 0, _ => Nat.le_refl _
  | j + 1, k => by
    have := goU_mono (L := L) j k
    show _ ≤ goU L g (k + j + 1)
    rw [goU_s]
    split
    · split <;> omega
    · exact this
theorem dl_F (F : FOR g n) : FOR (dl g n) n := dlU_F F n
theorem dlI_F (F : FOR g n) : ∀ k, FOR (dlI g n k) n
  | 0 => F
  | k + 1 => dl_F (dlI_F F k)
theorem lv_bit : (lv g n).testBit v = true ↔ v < n ∧ pc (g v) = 1 := by
  unfold lv
  rw [stU_bit, al_bit, Bool.and_eq_true, Bool.and_eq_true, decide_eq_true_eq, decide_eq_true_eq]
  exact ⟨fun h => ⟨h.1, h.2.2⟩, fun h => ⟨h.1, h.1, h.2⟩⟩
/-- gone in a round -/
def gon (g : Nat → Nat) (n : Nat) : Nat := goU (lv g n) g n
theorem gon_ed (F : FOR g n) (hn : n ≤ 10) : ed (dl g n) n + gon g n = ed g n := by
  have h1 := goU_ends F hn (L := lv g n) n
  have h2 := ends_ed F hn
  have h3 := ends_ed (dl_F F) hn
  have h3' : tsU (fun v => pc (dlU (lv g n) g n v)) n = 2 * ed (dl g n) n := h3
  unfold gon
  omega
theorem gon_pos (F : FOR g n) (hn : n ≤ 10) (h : (g u).testBit w = true) : 0 < gon g n := by
  have G := F.1
  obtain ⟨v, v1, v2, -⟩ := leaf_ex F hn h
  obtain ⟨r, hr, hr1, hr2⟩ := min_ex (P := fun v => (lv g n).testBit v = true) (a := v) (lv_bit.mpr ⟨v1, v2⟩)
  obtain ⟨r1, r2⟩ := lv_bit.mp hr1
  have e : ∀ k, k ≤ r → dlU (lv g n) g k = g := fun k => by
    induction k with
    | zero => intro _; rfl
    | succ k ih =>
      intro hk
      rw [dlU_s, if_neg (hr2 k (by omega))]
      exact ih (by omega)
  obtain ⟨q, q1, q2, q3⟩ := pc_1 (G.k hn r) r2
  have h1 : 0 < goU (lv g n) g (r + 1) := by
    rw [goU_s, if_pos hr1, e r (Nat.le_refl _), q3, if_neg (by intro e; cases e)]
    omega
  have h2 := goU_mono (g := g) (L := lv g n) (n - (r + 1)) (r + 1)
  rw [show r + 1 + (n - (r + 1)) = n by omega] at h2
  unfold gon; omega
theorem ed_zero (F : FOR g n) (hn : n ≤ 10) (h : ed g n = 0) (v : Nat) : g v = 0 := by
  apply Classical.byContradiction
  intro hne
  have : ∃ w, (g v).testBit w = true := by
    apply Classical.byContradiction
    intro hc
    exact hne (set_ext fun j => by
      rw [Nat.zero_testBit]
      cases hb : (g v).testBit j
      · rfl
      · exact absurd ⟨j, hb⟩ hc)
  obtain ⟨w, hw⟩ := this
  have h1 := gon_pos F hn hw
  have h2 := gon_ed F hn
  omega
theorem dlI_ed (F : FOR g n) (hn : n ≤ 10) : ∀ k, ed (dlI g n k) n = 0 ∨ ed (dlI g n k) n + k ≤ ed g n
  | 0 => Or.inr (Nat.le_refl _)
  | k + 1 => by
    have h2 := gon_ed (dlI_F F k) hn
    have e : ed (dl (dlI g n k) n) n = ed (dlI g n (k + 1)) n := rfl
    rw [e] at h2
    rcases dlI_ed F hn k with h | h
    · exact Or.inl (by omega)
    · by_cases hz : ed (dlI g n (k + 1)) n = 0
      · exact Or.inl hz
      · by_cases hp : gon (dlI g n k) n = 0
        · exfalso
          have hz2 : ed (dlI g n k) n ≠ 0 := by omega
          have : ∃ u w, (dlI g n k u).testBit w = true := by
            apply Classical.byContradiction
            intro hc
            apply hz2
            have hall : ∀ v, dlI g n k v = 0 := fun v => set_ext fun j => by
              rw [Nat.zero_testBit]
              cases hb : (dlI g n k v).testBit j
              · rfl
              · exact absurd ⟨v, j, hb⟩ hc
            unfold ed
            rw [tsU_ext n (f := fun _ => 0) (fun i _ => by rw [hall i, pc_0]), tsU_0]
          obtain ⟨u, w, hw⟩ := this
          have := gon_pos (dlI_F F k) hn hw
          omega
        · exact Or.inr (by omega)
/-- the round of a vertex -/
theorem round_ex (F : FOR g n) (hn : n ≤ 10) (h1 : 1 ≤ n) (v : Nat) : ∃ r, r < 10 ∧ (∀ j, j < r → dlI g n j v ≠ 0) ∧ dlI g n r v = 0 := by
  have he := ed_roots F hn
  have h0 : ed g n < 10 := by
    have : isR g n 0 = true := (isR_iff F.1 hn (by omega)).mpr (by have := (rot_ok F.1 hn (show 0 < n by omega)).2.2; omega)
    have hp : 0 < cnU (isR g n) n := by
      rw [cnU_cP]
      exact List.countP_pos_iff.mpr ⟨0, List.mem_range.mpr (by omega), this⟩
    omega
  have h9 : dlI g n 9 v = 0 := by
    refine ed_zero (dlI_F F 9) hn ?_ v
    rcases dlI_ed F hn 9 with h | h
    · exact h
    · omega
  obtain ⟨r, hr, hr1, hr2⟩ := min_ex (P := fun r => dlI g n r v = 0) h9
  exact ⟨r, by omega, hr2, hr1⟩
/-! medians -/
theorem med_ex {a b c : Nat} (F : FOR g n) (hn : n ≤ 10) (ha : a < n) (hb : b < n) (hc : c < n) {kb kc : Nat} (h1 : ds g n a b = some kb) (h2 : ds g n a c = some kc) : ∃ m i jb jc, m < n ∧ ds g n a m = some i ∧ ds g n m b = some jb ∧ ds g n m c = some jc ∧ i + jb = kb ∧ i + jc = kc ∧ ds g n b c = some (jb + jc) := by
  have G := F.1
  obtain ⟨i, ⟨m, jb, jc, hm, m1, m2, m3, m4, m5⟩, hmax⟩ := max_ex (P := fun i => ∃ m jb jc, m < n ∧ ds g n a m = some i ∧ ds g n m b = some jb ∧ ds g n m c = some jc ∧ i + jb = kb ∧ i + jc = kc) (a := 0) (N := n) ⟨a, kb, kc, ha, ds_slf G hn ha, h1, h2, by omega, by omega⟩ (fun r ⟨m, jb, jc, _, h, _⟩ => ds_lt h)
  refine ⟨m, i, jb, jc, hm, m1, m2, m3, m4, m5, ?_⟩
  have s2 := m2
  rw [ds_sy G hn hm hb] at s2
  obtain ⟨l, l1, l2⟩ := ds_tri G hn hb s2 m3
  rw [l2]
  congr 1
  -- every way from b to c meets m
  have meet : b ≠ m → c ≠ m → ¬ cn g (fun y => y ≠ m) b c := by
    intro hbm hcm hcn
    have s3 := m3
    rw [ds_sy G hn hm hc] at s3
    have hjb : jb ≠ 0 := fun e => by rw [e] at s2; exact hbm (ds_zero G hn hb s2)
    have hjc : jc ≠ 0 := fun e => by rw [e] at s3; exact hcm (ds_zero G hn hc s3)
    obtain ⟨jb', rfl⟩ : ∃ j, jb = j + 1 := ⟨jb - 1, by omega⟩
    obtain ⟨jc', rfl⟩ : ∃ j, jc = j + 1 := ⟨jc - 1, by omega⟩
    obtain ⟨wb, wb1, wb2⟩ := ds_par G hn hb s2
    obtain ⟨wc, wc1, wc2⟩ := ds_par G hn hc s3
    have a1 := away G hn hb hbm s2 wb1 (by omega) (fun e => G.ne wb2 e.symm)
    have a2 := away G hn hc hcm s3 wc1 (by omega) (fun e => G.ne wc2 e.symm)
    have e := F.2 m wb wc wb2 wc2 (cn_tr (G.cns a1 hbm) (cn_tr hcn a2))
    subst e
    have hw := G.lt wb2
    have t1 := wb1
    have t2 := wc1
    rw [ds_sy G hn hb hw] at t1
    rw [ds_sy G hn hc hw] at t2
    obtain ⟨z, z1, z2, z3⟩ := ds_nb G hn ha m1 wb2
    obtain ⟨z', z4, z5⟩ := ds_tri G hn ha z3 t1
    rw [h1] at z5; cases z5
    have := hmax (i + 1) ⟨wb, jb', jc', hw, by rw [z3]; congr 1; omega, t1, t2, by omega, by omega⟩
    omega
  by_cases hbm : b = m
  · subst hbm
    rw [ds_slf G hn hb] at s2; cases s2
    rw [m3] at l2; cases l2; omega
  · by_cases hcm : c = m
    · subst hcm
      rw [ds_slf G hn hc] at m3; cases m3
      rw [s2] at l2; cases l2; omega
    · rcases ch_split hbm l c (ds_ch G hn hb l2) with h | ⟨i', q1, q2, q3⟩
      · exact absurd h (meet hbm hcm)
      · obtain ⟨r1, r2, r3⟩ := ds_le_ch G hn hb q2
        obtain ⟨r4, r5, r6⟩ := ds_le_ch G hn hm q3
        rw [s2] at r3; cases r3
        rw [m3] at r6; cases r6
        omega
end
