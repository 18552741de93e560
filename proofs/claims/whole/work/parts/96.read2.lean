section
variable {d m n : Nat} {c c' c'' : Nat → List Value} {f : Nat → Int32} {z : Nat → Int32} {p : rd_p} {F : rd_f} {x y : Int32} {h : ab_H}
/-! what the reference reads: against the class's pure reader -/
def FK (A : List Nat) (c c' : Nat → List Value) : Prop := (∀ i, i ≠ 70 → c' i = c i) ∧ ∀ z, c 70 = moL z → ∃ z', c' 70 = moL z' ∧ ∀ i, A.contains i = false → z' i = z i
theorem FK.tr {A : List Nat} (a : FK A c c') (b : FK A c' c'') : FK A c c'' := ⟨fun i hi => (b.1 i hi).trans (a.1 i hi), fun z hz => by
  obtain ⟨z1, h1, h2⟩ := a.2 z hz
  obtain ⟨z2, h3, h4⟩ := b.2 z1 h1
  exact ⟨z2, h3, fun i p => (h4 i p).trans (h2 i p)⟩⟩
theorem FK.mono {A B : List Nat} (a : FK A c c') (h : ∀ i, B.contains i = false → A.contains i = false) : FK B c c' := ⟨a.1, fun z hz => by
  obtain ⟨z1, h1, h2⟩ := a.2 z hz
  exact ⟨z1, h1, fun i p => h2 i (h i p)⟩⟩
theorem FK.rf {A : List Nat} : FK A c c := ⟨fun _ _ => rfl, fun z hz => ⟨z, hz, fun _ _ => rfl⟩⟩
abbrev K4 : List Nat := [15, 16, 17, 18]
abbrev K7 : List Nat := [15, 16, 17, 18, 19, 20, 21]
theorem K47 : ∀ i, K7.contains i = false → K4.contains i = false := fun i h => by
  simp only [K7, K4, List.contains_cons, List.contains_nil, Bool.or_false, Bool.or_eq_false_iff] at h ⊢
  exact ⟨h.1, h.2.1, h.2.2.1, h.2.2.2.1⟩
theorem FK.of1 {A : List Nat} (hz : c 70 = moL z) {i : Nat} (hi : ∀ j, A.contains j = false → j ≠ i) (hs : ∀ z : Nat → Int32, (moL z).set i (.int x) = moL (up1 z i x)) : FK A c (up1 c 70 (moL (up1 z i x))) :=
  ⟨fun j hj => up1_ne _ _ hj, fun z' hz' => ⟨up1 z' i x, by
    rw [up1_same, ← hs, ← hs, ← hz, hz'], fun j hj => up1_ne _ _ (hi j hj)⟩⟩
theorem SC.fk {A : List Nat} (S : SC c) (K : FK A c c') : SC c' := S.same (fun i hi => K.1 i (by omega))
def NV (p : rd_p) : Prop := p.2.2.1 = 2 → ∃ k, k < 100 ∧ p.2.2.2.1 = nI k
def LQ (c : Nat → List Value) (f : Nat → Int32) (m : Nat) (p : rd_p) : Prop := (∃ z, c 70 = moL z ∧ BF c z m f ∧ z 15 = nI p.2.1 ∧ z 16 = nI p.1 ∧ z 17 = sM p.2.2.1 ∧ (p.2.2.1 = 2 → z 18 = p.2.2.2.1)) ∧ rdOk m p ∧ p.2.2.1 < 10 ∧ NV p
def LE (c : Nat → List Value) (e : Int32) : Prop := ∃ z, c 70 = moL z ∧ 8 * z 20 + z 19 = e
def TO (c : Nat → List Value) (x : Int32) : Prop := ∃ z, c 70 = moL z ∧ z 21 = x
theorem rn_all {B : Int32 → Bool} : ∀ j i q, i ≤ q → q < rn B f j i → B (f q) = true
  | 0, i, q, h1, h2 => by
    have h2 : q < i := h2
    omega
  | j + 1, i, q, h1, h2 => by
    unfold rn at h2
    by_cases hb : B (f i) = true
    · rw [if_pos hb] at h2
      by_cases e : q = i
      · rw [e]; exact hb
      · exact rn_all j (i + 1) q (by omega) h2
    · rw [if_neg hb] at h2; omega
theorem di_1 : ∀ k, k < 256 → diB (if k < 128 then nI k else nI k - 256) = true → 48 ≤ k ∧ k ≤ 57 := by decide +kernel
theorem di_nat (hb : isB x) (hd : diB x = true) : ∃ a, a < 10 ∧ x = nI (48 + a) := by
  obtain ⟨k, hk, e⟩ := hb
  rw [e] at hd
  have := di_1 k hk hd
  refine ⟨k - 48, by omega, ?_⟩
  rw [e, if_pos (by omega), show 48 + (k - 48) = k by omega]
theorem vl_nat (hb : ∀ i, isB (f i)) {s : Nat} : ∀ k, k ≤ 2 → (∀ i, i < k → diB (f (s + i)) = true) → ∃ a, a < 10 ^ k ∧ vlU f s k = nI a
  | 0, _, _ => ⟨0, by decide, rfl⟩
  | k + 1, hk, hd => by
    obtain ⟨a, h1, h2⟩ := vl_nat hb k (by omega) (fun i hi => hd i (by omega))
    obtain ⟨b, h3, h4⟩ := di_nat (hb (s + k)) (hd k (by omega))
    refine ⟨10 * a + b, ?_, ?_⟩
    · rw [Nat.pow_succ]; omega
    · rw [vl_s, h2, h4, show (10 : Int32) = nI 10 from rfl, pk_mul, nI_add, show (48 : Int32) = nI 48 from rfl, pk_sub (by omega), show 10 * a + (48 + b) - 48 = 10 * a + b by omega]
theorem tkT_nv (hb : ∀ i, isB (f i)) : NV (tkT f m p) := by
  unfold NV tkT
  split
  · intro h; cases h
  · split
    · intro h; cases h
    · split
      · intro h
        obtain ⟨S, hS⟩ : ∃ S, S = tkA f m p.2.1 := ⟨_, rfl⟩
        rw [← hS] at h ⊢
        obtain ⟨E, hE⟩ : ∃ E, E = rn diB f (m - S) S := ⟨_, rfl⟩
        rw [← hE] at h ⊢
        have h : (if E - S ≤ 2 then 2 else 4) = 2 := h
        have h2 : E - S ≤ 2 := Decidable.byContradiction fun q => by rw [if_neg q] at h; cases h
        obtain ⟨a, h3, h4⟩ := vl_nat hb (s := S) (E - S) h2 (fun i hi => rn_all (m - S) S (S + i) (by omega) (by rw [← hE]; omega))
        refine ⟨a, ?_, h4⟩
        have : 10 ^ (E - S) ≤ 10 ^ 2 := Nat.pow_le_pow_right (by decide) h2
        omega
      · intro h
        have h : (if f (tkA f m p.2.1) = 59 then 3 else 4) = 2 := h
        split at h <;> cases h
theorem LQ.go (L : LQ c f m p) : ∃ c', MSE m_X10_go (d + 2) [.ref 70] (hp c) none (hp c') ∧ LQ c' f m (tkT f m p) ∧ FK K4 c c' := by
  obtain ⟨⟨z, hz, B, h15, h16, h17, h18⟩, ok, h10, nv⟩ := L
  obtain ⟨v, m1, hv⟩ := r_go (d := d) B hz h15 ok.2
  refine ⟨_, m1, ⟨⟨_, up1_same _ _ _, ⟨(up1_ne _ _ (by decide)).trans B.1, B.2⟩, rfl, rfl, rfl, fun h => hv h⟩, tkT_ok ok, tkT_t, tkT_nv B.2.2.2⟩, fun i hi => up1_ne _ _ hi, fun z' hz' => ?_⟩
  refine ⟨zg z' (tkT f m p).2.1 (nI (tkT f m p).1) (sM (tkT f m p).2.2.1) v, ?_, fun i hi => ?_⟩
  · show up1 c 70 (moL (zg z (tkT f m p).2.1 (nI (tkT f m p).1) (sM (tkT f m p).2.2.1) v)) 70 = _
    rw [up1_same]
    have e : ∀ z : Nat → Int32, moL (zg z (tkT f m p).2.1 (nI (tkT f m p).1) (sM (tkT f m p).2.2.1) v) = ((((moL z).set 15 (.int (nI (tkT f m p).2.1))).set 16 (.int (nI (tkT f m p).1))).set 17 (.int (sM (tkT f m p).2.2.1))).set 18 (.int v) := fun z => rfl
    rw [e, e, ← hz, hz']
  · simp only [K4, List.contains_cons, List.contains_nil, Bool.or_false, Bool.or_eq_false_iff, beq_eq_false_iff_ne, ne_eq] at hi
    unfold zg
    rw [if_neg hi.1, if_neg hi.2.1, if_neg hi.2.2.1, if_neg hi.2.2.2]
theorem moS19 : (moL z).set 19 (.int x) = moL (up1 z 19 x) := rfl
theorem moS20 : (moL z).set 20 (.int x) = moL (up1 z 20 x) := rfl
theorem moS21 : (moL z).set 21 (.int x) = moL (up1 z 21 x) := rfl
theorem LQ.bad (L : LQ c f m p) : ∃ c', MSE m_X10_bad d [.ref 70, .int x] (hp c) (some (.int 0)) (hp c') ∧ FK K7 c c' ∧ LE c' (8 * nI p.1 + x) := by
  obtain ⟨⟨z, hz, B, h15, h16, h17, h18⟩, ok, h10, nv⟩ := L
  have e1 : (hp c).set 70 (10, (moL z).set 19 (.int x)) = hp (up1 c 70 (moL (up1 z 19 x))) := by rw [moS19, hp_set (by decide) (by decide)]
  have e2 : (hp (up1 c 70 (moL (up1 z 19 x)))).set 70 (10, (moL (up1 z 19 x)).set 20 (.int (nI p.1))) = hp (up1 (up1 c 70 (moL (up1 z 19 x))) 70 (moL (up1 (up1 z 19 x) 20 (nI p.1)))) := by rw [moS20, hp_set (by decide) (by decide)]
  refine ⟨_, e_X10_bad (b_X10_bad_0 (x6 := nI p.1) (mo_H hz) (by show 19 < 27; decide) (by rw [e1]; exact mo_H (up1_same _ _ _)) (by rw [← h16]; rfl) (by rw [e1]; exact mo_H (up1_same _ _ _)) (by show 20 < 27; decide) ⟨rfl, by rw [e1, e2]⟩), ?_, ?_⟩
  · refine (FK.of1 hz (fun j hj => ?_) (fun _ => rfl)).tr (FK.of1 (up1_same _ _ _) (fun j hj => ?_) (fun _ => rfl))
    · rintro rfl; exact absurd hj (by decide)
    · rintro rfl; exact absurd hj (by decide)
  · exact ⟨_, up1_same _ _ _, rfl⟩
theorem LQ.is (L : LQ c f m p) {t : Nat} (ht : t < 6) : MSE m_X10_isWord (d + 4) [.ref 70, .retAddr t] (hp c) (some (.int (nI (if wdB f t p = true then 1 else 0)))) (hp c) := by
  obtain ⟨⟨z, hz, B, h15, h16, h17, h18⟩, ok, h10, nv⟩ := L
  have hm := B.2.2.1
  have hl := tl_lt ht
  obtain ⟨ok1, ok2⟩ := ok
  have M := mo_H hz
  have f15 : (moL z)[15]? = some (.int (nI p.2.1)) := by rw [← h15]; rfl
  have f16 : (moL z)[16]? = some (.int (nI p.1)) := by rw [← h16]; rfl
  have f17 : (moL z)[17]? = some (.int (sM p.2.2.1)) := by rw [← h17]; rfl
  have H77 : (hp c)[77]? = some (100, ar 400 (fun i => bU (f i))) := hp_is 77 100 B.1 (by decide) (by decide)
  have s2 : sM p.2.2.1 = 2 ↔ p.2.2.1 = 1 := by
    unfold sM
    constructor
    · intro h
      split at h
      · cases h
      · split at h
        · assumption
        · split at h
          · cases h
          · split at h <;> cases h
    · intro h
      rw [h]; rfl
  refine e_X10_isWord (b_X10_isWord_0 M f17 (fun q1 => b_X10_isWord_24 ⟨?_, rfl⟩) (fun q1 => b_X10_isWord_8 M f15 M f16 ht ht (s_strlen ht) (fun q2 => b_X10_isWord_26 ht ?_) (fun q2 => b_X10_isWord_24 ⟨?_, rfl⟩)))
  · have : ¬ p.2.2.1 = 1 := fun e => q1 (s2.mpr e)
    unfold wdB
    rw [decide_eq_false this]; rfl
  · have e1 := s2.mp q1
    rw [pk_sub ok1] at q2
    have e2 := (i_eq (by omega) (by omega)).mp q2
    have e3 : wdB f t p = (List.range (tl t)).all (fun i => decide (f (p.1 + i) = tc t i)) := by
      unfold wdB
      rw [decide_eq_true e1, decide_eq_true e2]; rfl
    rw [e3]
    have key := up_all (n := tl t) (T := fun k => (∀ j, j < k → f (p.1 + j) = tc t j) → a_X10_isWord_28 (d + 4) 0 0 70 t (nI k) (hp c) (rI (nI (if (List.range (tl t)).all (fun i => decide (f (p.1 + i) = tc t i)) = true then 1 else 0)) (hp c))) (fun k hk ih hz => ?_) (fun hz => ?_)
    · exact key (fun j hj => absurd hj (Nat.not_lt_zero j))
    · have bc := bu_tc (B.2.2.2 (p.1 + k)) ht hk
      refine b_X10_isWord_28 ht ht (s_strlen ht) (fun q => absurd q (nI_ge hk (by omega))) (fun _ => b_X10_isWord_36 (x7 := bU (f (p.1 + k))) M rfl M f16 H77 (by rw [nI_add]; exact nI_pos (by omega)) (by rw [nI_add, cl_nI (by omega)]; exact ar_at _ (by omega)) ht ht (s_charAt ht hk) (fun q3 => b_X10_isWord_57 ht ?_) (fun q3 => b_X10_isWord_55 ⟨?_, rfl⟩))
      · rw [nI_1]
        exact ih (fun j hj => by
          rcases Nat.lt_succ_iff_lt_or_eq.mp hj with h | h
          · exact hz j h
          · rw [h]; exact bc.mp q3)
      · have : (List.range (tl t)).all (fun i => decide (f (p.1 + i) = tc t i)) = false := by
          rw [List.all_eq_false]
          exact ⟨k, List.mem_range.mpr hk, by rw [decide_eq_false (fun e => q3 (bc.mpr e))]; decide⟩
        rw [this]; rfl
    · have : (List.range (tl t)).all (fun i => decide (f (p.1 + i) = tc t i)) = true := by
        rw [List.all_eq_true]
        exact fun j hj => decide_eq_true (hz j (List.mem_range.mp hj))
      rw [this]
      exact b_X10_isWord_28 ht ht (s_strlen ht) (fun _ => b_X10_isWord_63 ⟨rfl, rfl⟩) (fun q => absurd (nI_le (Nat.le_refl _) (by omega)) q)
  · rw [pk_sub ok1] at q2
    have e2 : ¬ p.2.1 - p.1 = tl t := fun e => q2 (by rw [e])
    unfold wdB
    rw [decide_eq_false e2, Bool.false_and, Bool.and_false]; rfl
theorem sM_3 {t : Nat} : sM t = 3 ↔ t = 2 := by
  unfold sM
  constructor
  · intro h
    split at h
    · cases h
    · split at h
      · cases h
      · split at h
        · assumption
        · split at h <;> cases h
  · intro h
    rw [h]; rfl
theorem sM_4 {t : Nat} : sM t = 4 ↔ t = 3 := by
  unfold sM
  constructor
  · intro h
    split at h
    · cases h
    · split at h
      · cases h
      · split at h
        · cases h
        · split at h
          · assumption
          · cases h
  · intro h
    rw [h]; rfl
theorem sM_0 {t : Nat} : sM t = 0 ↔ t = 0 := by
  unfold sM
  constructor
  · intro h
    split at h
    · assumption
    · split at h
      · cases h
      · split at h
        · cases h
        · split at h <;> cases h
  · intro h
    rw [h]; rfl
theorem LQ.f17 (L : LQ c f m p) (hz : c 70 = moL z) : (moL z)[17]? = some (.int (sM p.2.2.1)) := by
  obtain ⟨⟨z1, hz1, B, h15, h16, h17, h18⟩, -⟩ := L
  rw [← hz, hz1, ← h17]; rfl
theorem LQ.f18 (L : LQ c f m p) (hz : c 70 = moL z) (h2 : p.2.2.1 = 2) : (moL z)[18]? = some (.int p.2.2.2.1) := by
  obtain ⟨⟨z1, hz1, B, h15, h16, h17, h18⟩, -⟩ := L
  rw [← hz, hz1, ← h18 h2]; rfl
theorem LQ.M (L : LQ c f m p) : ∃ z, c 70 = moL z := by
  obtain ⟨⟨z1, hz1, -⟩, -⟩ := L
  exact ⟨z1, hz1⟩
/-- a change of told -/
theorem LQ.told (L : LQ c f m p) (hz : c 70 = moL z) : LQ (up1 c 70 (moL (up1 z 21 x))) f m p := by
  obtain ⟨⟨z1, hz1, B, h15, h16, h17, h18⟩, r⟩ := L
  refine ⟨⟨up1 z1 21 x, ?_, ⟨(up1_ne _ _ (by decide)).trans B.1, (up1_ne _ _ (by decide)).trans B.2.1, B.2.2⟩, (up1_ne _ _ (by decide)).trans h15, (up1_ne _ _ (by decide)).trans h16, (up1_ne _ _ (by decide)).trans h17, fun h => (up1_ne _ _ (by decide)).trans (h18 h)⟩, r⟩
  rw [up1_same, ← moS21, ← moS21, ← hz, hz1]
theorem FK.zq {A : List Nat} (K : FK A c c') (hz : c 70 = moL z) {i : Nat} (hi : A.contains i = false) : ∃ z', c' 70 = moL z' ∧ z' i = z i := by
  obtain ⟨z', h1, h2⟩ := K.2 z hz
  exact ⟨z', h1, h2 i hi⟩
theorem LQ.ends (L : LQ c f m p) : ∃ c', MSE m_X10_ends (d + 3) [.ref 70] (hp c) (some (.int (nI (if (enR f m p).1 = true then 1 else 0)))) (hp c') ∧ FK K7 c c' ∧ ((enR f m p).1 = true → LQ c' f m (enR f m p).2) ∧ ((enR f m p).1 = false → LE c' (enR f m p).2.2.2.2.2) := by
  obtain ⟨z, hz⟩ := L.M
  unfold enR
  by_cases h : p.2.2.1 = 3
  · rw [if_pos h]
    obtain ⟨c1, m1, L1, K1⟩ := L.go (d := d)
    exact ⟨c1, e_X10_ends (b_X10_ends_0 (mo_H hz) (L.f17 hz) (fun _ => b_X10_ends_14 (mo_H hz) m1 ⟨rfl, rfl⟩) (fun q => absurd (sM_4.mpr h) q)), K1.mono K47, fun _ => L1, fun h => (by cases h)⟩
  · rw [if_neg h]
    obtain ⟨c1, m1, K1, E1⟩ := L.bad (d := d + 2) (x := 1)
    exact ⟨c1, e_X10_ends (b_X10_ends_0 (mo_H hz) (L.f17 hz) (fun q => absurd (sM_4.mp q) h) (fun _ => b_X10_ends_8 (mo_H hz) m1 (by decide) ⟨rfl, rfl⟩)), K1, fun h => (by cases h), fun _ => E1⟩
theorem LQ.reads (L : LQ c f m p) {a b : Int32} : ∃ c', MSE m_X10_reads (d + 3) [.ref 70, .int a, .int b] (hp c) (some (.int (nI (if (nnR p a b).1 = true then 1 else 0)))) (hp c') ∧ FK K7 c c' ∧ ((nnR p a b).1 = true → LQ c' f m (tkT f m p) ∧ TO c' p.2.2.2.1) ∧ ((nnR p a b).1 = false → LE c' (nnR p a b).2.2.2.2.2) := by
  obtain ⟨z, hz⟩ := L.M
  unfold nnR
  by_cases h : p.2.2.1 = 2
  · rw [if_pos h]
    have hi := r_isIn (d := d + 2) (h := hp c) (x := p.2.2.2.1) (a := a) (b := b)
    by_cases h2 : p.2.2.2.1 < a ∨ ¬ p.2.2.2.1 ≤ b
    · rw [if_pos h2]
      have h3 : p.2.2.2.1 < a ∨ b < p.2.2.2.1 := by
        rcases h2 with h | h
        · exact Or.inl h
        · exact Or.inr (Int32.not_le.mp h)
      rw [if_pos h3] at hi
      obtain ⟨c1, m1, K1, E1⟩ := L.bad (d := d + 2) (x := 2)
      exact ⟨c1, e_X10_reads (b_X10_reads_0 (mo_H hz) (L.f17 hz) (fun _ => b_X10_reads_14 (mo_H hz) (L.f18 hz h) hi (fun q => absurd rfl q) (fun _ => b_X10_reads_26 (mo_H hz) m1 (by decide) ⟨rfl, rfl⟩)) (fun q => absurd (sM_3.mpr h) q)), K1, fun h => (by cases h), fun _ => E1⟩
    · rw [if_neg h2]
      have h3 : ¬ (p.2.2.2.1 < a ∨ b < p.2.2.2.1) := fun h4 => h2 (by
        rcases h4 with h | h
        · exact Or.inl h
        · exact Or.inr (Int32.not_le.mpr h))
      rw [if_neg h3] at hi
      have L0 := L.told (x := p.2.2.2.1) hz
      have e1 : (hp c).set 70 (10, (moL z).set 21 (.int p.2.2.2.1)) = hp (up1 c 70 (moL (up1 z 21 p.2.2.2.1))) := by rw [moS21, hp_set (by decide) (by decide)]
      obtain ⟨c1, m1, L1, K1⟩ := L0.go (d := d)
      have K0 : FK K7 c (up1 c 70 (moL (up1 z 21 p.2.2.2.1))) := FK.of1 hz (fun j hj => by rintro rfl; exact absurd hj (by decide)) (fun _ => rfl)
      refine ⟨c1, e_X10_reads (b_X10_reads_0 (mo_H hz) (L.f17 hz) (fun _ => b_X10_reads_14 (mo_H hz) (L.f18 hz h) hi (fun _ => b_X10_reads_32 (mo_H hz) (L.f18 hz h) (mo_H hz) (by show 21 < 27; decide) (by rw [e1]; exact mo_H (up1_same _ _ _)) (by rw [e1]; exact m1) ⟨rfl, rfl⟩) (fun q => absurd q (by decide))) (fun q => absurd (sM_3.mpr h) q)), K0.tr (K1.mono K47), fun _ => ⟨L1, ?_⟩, fun h => (by cases h)⟩
      obtain ⟨z2, h4, h5⟩ := K1.zq (up1_same _ _ _) (i := 21) (by decide)
      exact ⟨z2, h4, h5.trans (up1_same _ _ _)⟩
  · rw [if_neg h]
    obtain ⟨c1, m1, K1, E1⟩ := L.bad (d := d + 2) (x := 1)
    exact ⟨c1, e_X10_reads (b_X10_reads_0 (mo_H hz) (L.f17 hz) (fun q => absurd (sM_3.mp q) h) (fun _ => b_X10_reads_8 (mo_H hz) m1 (by decide) ⟨rfl, rfl⟩)), K1, fun h => (by cases h), fun _ => E1⟩
end
