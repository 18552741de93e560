theorem up1_cm {α : Type} {c : Nat → α} {i j : Nat} {x y : α} (h : i ≠ j) : up1 (up1 c i x) j y = up1 (up1 c j y) i x := by
  funext k
  unfold up1; try dsimp only
  by_cases e1 : k = j
  · by_cases e2 : k = i
    · exact absurd (e2.symm.trans e1) h
    · rw [if_pos e1, if_neg e2, if_pos e1]
  · rw [if_neg e1]
    by_cases e2 : k = i
    · rw [if_pos e2, if_pos e2]
    · rw [if_neg e2, if_neg e2, if_neg e1]
/-! the reader: what changes is ((start, end, token, value, error), (size, near, weights), code) -/
abbrev rd_p : Type := Nat × Nat × Nat × Int32 × Int32
abbrev rd_f : Type := Nat × (Nat → Nat) × (Nat → Nat)
def rdL (p : rd_p) : List Value := [.ref 2, .ref 4, .ref 7, .int (nI p.1), .int (nI p.2.1), .int (nI p.2.2.1), .int p.2.2.2.1, .int p.2.2.2.2]
def hR (c : Nat → List Value) (p : rd_p) (F : rd_f) (q : Nat → Nat) : Nat → List Value := up1 (up1 (up1 (up1 (up1 c 1 (rdL p)) 4 [.ref 5, .ref 6, .int (nI F.1)]) 5 (ar 10 (fun i => nI (F.2.1 i)))) 6 (ar 10 (fun i => nI (F.2.2 i)))) 8 (ar 10 (fun i => nI (q i)))
def RB (c : Nat → List Value) (m : Nat) (f : Nat → Int32) : Prop := c 2 = [.ref 3, .int (nI m)] ∧ c 3 = ar 400 f ∧ c 7 = [.ref 8] ∧ m ≤ 400
/-- the forest of the reader is one of at most ten vertices -/
def FS (F : rd_f) : Prop := F.1 ≤ 10 ∧ ∀ i, F.2.1 i < 1024
section
variable {d m : Nat} {c : Nat → List Value} {f : Nat → Int32} {p : rd_p} {F : rd_f} {q : Nat → Nat} {P : ab_O → ab_H → Prop}
theorem hR_1 : (hp (hR c p F q))[1]? = some (6, rdL p) := hp_is 1 6 rfl (by decide) (by decide)
theorem hR_F (h : FS F) : FO (hp (hR c p F q)) 4 5 6 F.1 F.2.1 F.2.2 := hp_fo 4 5 6 rfl rfl rfl (by decide) h.1 h.2 (by decide) (by decide) (by decide)
theorem hR_C (K : RB c m f) : CO (hp (hR c p F q)) 7 8 q := ⟨hp_is 7 1 K.2.2.1 (by decide) (by decide), hp_is 8 100 rfl (by decide) (by decide)⟩
theorem hR_B (K : RB c m f) : BY (hp (hR c p F q)) 2 3 m f := ⟨hp_is 2 0 K.1 (by decide) (by decide), hp_is 3 101 K.2.1 (by decide) (by decide), K.2.2.2⟩
theorem hR_s1 {p' : rd_p} : (hp (hR c p F q)).set 1 (6, rdL p') = hp (hR c p' F q) := by
  rw [hp_set (by decide) (by decide)]
  unfold hR
  rw [up1_cm (i := 8) (j := 1) (by decide), up1_cm (i := 6) (j := 1) (by decide), up1_cm (i := 5) (j := 1) (by decide), up1_cm (i := 4) (j := 1) (by decide), up1_up1]
theorem hR_s4 {n' : Nat} : (hp (hR c p F q)).set 4 (3, [.ref 5, .ref 6, .int (nI n')]) = hp (hR c p (n', F.2) q) := by
  rw [hp_set (by decide) (by decide)]
  unfold hR
  rw [up1_cm (i := 8) (j := 4) (by decide), up1_cm (i := 6) (j := 4) (by decide), up1_cm (i := 5) (j := 4) (by decide), up1_up1]
theorem hR_s5 {g' : Nat → Nat} : (hp (hR c p F q)).set 5 (100, ar 10 (fun i => nI (g' i))) = hp (hR c p (F.1, g', F.2.2) q) := by
  rw [hp_set (by decide) (by decide)]
  unfold hR
  rw [up1_cm (i := 8) (j := 5) (by decide), up1_cm (i := 6) (j := 5) (by decide), up1_up1]
theorem hR_s6 {w' : Nat → Nat} : (hp (hR c p F q)).set 6 (100, ar 10 (fun i => nI (w' i))) = hp (hR c p (F.1, F.2.1, w') q) := by
  rw [hp_set (by decide) (by decide)]
  unfold hR
  rw [up1_cm (i := 8) (j := 6) (by decide), up1_up1]
theorem hR_s8 {q' : Nat → Nat} : (hp (hR c p F q)).set 8 (100, ar 10 (fun i => nI (q' i))) = hp (hR c p F q') := by
  rw [hp_set (by decide) (by decide)]
  unfold hR
  rw [up1_up1]
/-! tokens -/
def blB (x : Int32) : Bool := decide (x = 32) || decide (x = 10)
def leB (x : Int32) : Bool := !decide (x < 97) && !decide (122 < x)
def diB (x : Int32) : Bool := !decide (x < 48) && !decide (57 < x)
theorem s_isBlank {h : ab_H} {x : Int32} : MSE m_X6_isBlank d [.int x] h (some (.int (nI (if blB x = true then 1 else 0)))) h := by
  refine e_X6_isBlank (b_X6_isBlank_0 (fun q => b_X6_isBlank_12 (b_X6_isBlank_17 (by decide) ⟨?_, rfl⟩)) (fun q => b_X6_isBlank_6 (fun q2 => b_X6_isBlank_16 (b_X6_isBlank_17 (by decide) ⟨?_, rfl⟩)) (fun q2 => b_X6_isBlank_12 (b_X6_isBlank_17 (by decide) ⟨?_, rfl⟩))))
  · unfold blB; rw [decide_eq_true q]; rfl
  · unfold blB; rw [decide_eq_false q, decide_eq_false q2]; rfl
  · unfold blB; rw [decide_eq_true q2, Bool.or_true]; rfl
theorem s_isLetter {h : ab_H} {x : Int32} : MSE m_X6_isLetter d [.int x] h (some (.int (nI (if leB x = true then 1 else 0)))) h := by
  refine e_X6_isLetter (b_X6_isLetter_0 (fun q => b_X6_isLetter_16 (b_X6_isLetter_17 (by decide) ⟨?_, rfl⟩)) (fun q => b_X6_isLetter_6 (fun q2 => b_X6_isLetter_16 (b_X6_isLetter_17 (by decide) ⟨?_, rfl⟩)) (fun q2 => b_X6_isLetter_12 (b_X6_isLetter_17 (by decide) ⟨?_, rfl⟩))))
  · unfold leB; rw [decide_eq_true q]; rfl
  · unfold leB; rw [decide_eq_true q2, Bool.not_true, Bool.and_false]; rfl
  · unfold leB; rw [decide_eq_false q, decide_eq_false q2]; rfl
theorem s_isDigit {h : ab_H} {x : Int32} : MSE m_X6_isDigit d [.int x] h (some (.int (nI (if diB x = true then 1 else 0)))) h := by
  refine e_X6_isDigit (b_X6_isDigit_0 (fun q => b_X6_isDigit_16 (b_X6_isDigit_17 (by decide) ⟨?_, rfl⟩)) (fun q => b_X6_isDigit_6 (fun q2 => b_X6_isDigit_16 (b_X6_isDigit_17 (by decide) ⟨?_, rfl⟩)) (fun q2 => b_X6_isDigit_12 (b_X6_isDigit_17 (by decide) ⟨?_, rfl⟩))))
  · unfold diB; rw [decide_eq_true q]; rfl
  · unfold diB; rw [decide_eq_true q2, Bool.not_true, Bool.and_false]; rfl
  · unfold diB; rw [decide_eq_false q, decide_eq_false q2]; rfl
/-- from a place on, over at most so many, while a property holds -/
def rn (B : Int32 → Bool) (f : Nat → Int32) : Nat → Nat → Nat
  | 0, i => i
  | j + 1, i => if B (f i) = true then rn B f j (i + 1) else i
theorem rn_le {B : Int32 → Bool} {f : Nat → Int32} : ∀ j i, i ≤ rn B f j i ∧ rn B f j i ≤ i + j
  | 0, i => ⟨Nat.le_refl _, Nat.le_refl _⟩
  | j + 1, i => by
    have := rn_le (B := B) (f := f) j (i + 1)
    unfold rn
    split <;> omega
/-- the number that digits tell -/
def vlU (f : Nat → Int32) (s : Nat) : Nat → Int32
  | 0 => 0
  | k + 1 => 10 * vlU f s k + f (s + k) - 48
def tkA (f : Nat → Int32) (m e : Nat) : Nat := rn blB f (m - e) e
def tkT (f : Nat → Int32) (m : Nat) (p : rd_p) : rd_p :=
  if m ≤ tkA f m p.2.1 then (tkA f m p.2.1, tkA f m p.2.1, 0, p.2.2.2) else
  if leB (f (tkA f m p.2.1)) = true then (tkA f m p.2.1, rn leB f (m - tkA f m p.2.1) (tkA f m p.2.1), 1, p.2.2.2) else
  if diB (f (tkA f m p.2.1)) = true then (tkA f m p.2.1, rn diB f (m - tkA f m p.2.1) (tkA f m p.2.1), (if rn diB f (m - tkA f m p.2.1) (tkA f m p.2.1) - tkA f m p.2.1 ≤ 2 then 2 else 4), vlU f (tkA f m p.2.1) (rn diB f (m - tkA f m p.2.1) (tkA f m p.2.1) - tkA f m p.2.1), p.2.2.2.2) else
  (tkA f m p.2.1, tkA f m p.2.1 + 1, (if f (tkA f m p.2.1) = 59 then 3 else 4), p.2.2.2)
theorem s_advanceWord (K : RB c m f) {s e t : Nat} {x : Int32 × Int32} (hs : s ≤ m) : MSE m_X6_advanceWord (d + 1) [.ref 1] (hp (hR c (s, e, t, x) F q)) none (hp (hR c (s, rn leB f (m - s) s, 1, x) F q)) := by
  have hm := K.2.2.2
  refine e_X6_advanceWord (b_X6_advanceWord_0 hR_1 rfl hR_1 (by show 4 < 8; decide) ?_)
  have e0 : (hp (hR c (s, e, t, x) F q)).set 1 (6, (rdL (s, e, t, x)).set 4 (.int (nI s))) = hp (hR c (s, s, t, x) F q) := hR_s1 (p' := (s, s, t, x))
  rw [e0]
  have key : ∀ j i, i + j = m → a_X6_advanceWord_8 (d + 1) 0 0 1 (hp (hR c (s, i, t, x) F q)) (rV (hp (hR c (s, rn leB f j i, 1, x) F q))) := by
    intro j
    have out : ∀ i, SW none m_X6_advanceWord (d + 1) 0 0 52 [some (.ref 1)] [] (hp (hR c (s, i, t, x) F q)) (rV (hp (hR c (s, i, 1, x) F q))) := fun i =>
      b_X6_advanceWord_52 hR_1 (by show 5 < 8; decide) ⟨rfl, (hR_s1 (p' := (s, i, 1, x)))⟩
    induction j with
    | zero =>
      intro i hi
      exact b_X6_advanceWord_8 hR_1 rfl hR_1 rfl (hR_B K).1 rfl (fun _ => out i) (fun q => absurd (nI_le (show m ≤ i by omega) (by omega)) q)
    | succ j ih =>
      intro i hi
      refine b_X6_advanceWord_8 hR_1 rfl hR_1 rfl (hR_B K).1 rfl (fun q => absurd q (nI_ge (show i < m by omega) (by omega))) (fun _ => b_X6_advanceWord_22 hR_1 rfl hR_1 rfl (hR_B K).1 (s_at (hR_B K) (show i < m by omega)) s_isLetter (fun q2 => ?_) (fun q2 => b_X6_advanceWord_39 hR_1 rfl hR_1 (by show 4 < 8; decide) ?_))
      · unfold rn
        rw [if_neg (by rw [h01.mp q2]; decide)]
        exact out i
      · unfold rn
        rw [if_pos (tb_of q2), nI_1]
        have e1 : (hp (hR c (s, i, t, x) F q)).set 1 (6, (rdL (s, i, t, x)).set 4 (.int (nI (i + 1)))) = hp (hR c (s, i + 1, t, x) F q) := hR_s1 (p' := (s, i + 1, t, x))
        have := ih (i + 1) (by omega)
        rw [← e1] at this
        exact this
  exact key (m - s) s (by omega)
theorem s_advanceNumber (K : RB c m f) {s e t : Nat} {v r : Int32} (hs : s ≤ m) : MSE m_X6_advanceNumber (d + 1) [.ref 1] (hp (hR c (s, e, t, v, r) F q)) none (hp (hR c (s, rn diB f (m - s) s, (if rn diB f (m - s) s - s ≤ 2 then 2 else 4), vlU f s (rn diB f (m - s) s - s), r) F q)) := by
  have hm := K.2.2.2
  have e0 : (hp (hR c (s, e, t, v, r) F q)).set 1 (6, (rdL (s, e, t, v, r)).set 4 (.int (nI s))) = hp (hR c (s, s, t, v, r) F q) := hR_s1 (p' := (s, s, t, v, r))
  have e1 : (hp (hR c (s, s, t, v, r) F q)).set 1 (6, (rdL (s, s, t, v, r)).set 6 (.int 0)) = hp (hR c (s, s, t, 0, r) F q) := hR_s1 (p' := (s, s, t, 0, r))
  refine e_X6_advanceNumber (b_X6_advanceNumber_0 hR_1 rfl hR_1 (by show 4 < 8; decide) (by rw [e0]; exact hR_1) (by show 6 < 8; decide) ?_)
  rw [e0, e1]
  have key : ∀ j i, s ≤ i → i + j = m → a_X6_advanceNumber_13 (d + 1) 0 0 1 (hp (hR c (s, i, t, vlU f s (i - s), r) F q)) (rV (hp (hR c (s, rn diB f j i, (if rn diB f j i - s ≤ 2 then 2 else 4), vlU f s (rn diB f j i - s), r) F q))) := by
    intro j
    have out : ∀ i, s ≤ i → i ≤ m → SW none m_X6_advanceNumber (d + 1) 0 0 83 [some (.ref 1)] [] (hp (hR c (s, i, t, vlU f s (i - s), r) F q)) (rV (hp (hR c (s, i, (if i - s ≤ 2 then 2 else 4), vlU f s (i - s), r) F q))) := by
      intro i h1 h2
      refine b_X6_advanceNumber_83 hR_1 rfl hR_1 rfl (fun q2 => b_X6_advanceNumber_101 (b_X6_advanceNumber_102 hR_1 (by show 5 < 8; decide) ⟨rfl, ?_⟩)) (fun q2 => b_X6_advanceNumber_97 (b_X6_advanceNumber_102 hR_1 (by show 5 < 8; decide) ⟨rfl, ?_⟩))
      · have q2 : nI i - nI s ≤ 2 := q2
        rw [pk_sub h1] at q2
        rw [if_pos ((nI_leI (b := 2) (by omega) (by decide)).mp q2)]
        exact hR_s1 (p' := (s, i, 2, vlU f s (i - s), r))
      · have q2 : ¬ nI i - nI s ≤ 2 := q2
        rw [pk_sub h1] at q2
        rw [if_neg (fun q3 => q2 ((nI_leI (b := 2) (by omega) (by decide)).mpr q3))]
        exact hR_s1 (p' := (s, i, 4, vlU f s (i - s), r))
    induction j with
    | zero =>
      intro i h1 hi
      exact b_X6_advanceNumber_13 hR_1 rfl hR_1 rfl (hR_B K).1 rfl (fun _ => out i h1 (by omega)) (fun q => absurd (nI_le (show m ≤ i by omega) (by omega)) q)
    | succ j ih =>
      intro i h1 hi
      have e2 : (hp (hR c (s, i, t, vlU f s (i - s), r) F q)).set 1 (6, (rdL (s, i, t, vlU f s (i - s), r)).set 6 (.int (10 * vlU f s (i - s) + f i - 48))) = hp (hR c (s, i, t, vlU f s (i + 1 - s), r) F q) := by
        have e4 : vlU f s (i + 1 - s) = 10 * vlU f s (i - s) + f i - 48 := by
          obtain ⟨k, rfl⟩ : ∃ k, i = s + k := ⟨i - s, by omega⟩
          rw [show s + k + 1 - s = k + 1 by omega, show s + k - s = k by omega]; rfl
        rw [e4]
        exact hR_s1 (p' := (s, i, t, 10 * vlU f s (i - s) + f i - 48, r))
      have e3 : (hp (hR c (s, i, t, vlU f s (i + 1 - s), r) F q)).set 1 (6, (rdL (s, i, t, vlU f s (i + 1 - s), r)).set 4 (.int (nI (i + 1)))) = hp (hR c (s, i + 1, t, vlU f s (i + 1 - s), r) F q) := hR_s1 (p' := (s, i + 1, t, vlU f s (i + 1 - s), r))
      refine b_X6_advanceNumber_13 hR_1 rfl hR_1 rfl (hR_B K).1 rfl (fun q => absurd q (nI_ge (show i < m by omega) (by omega))) (fun _ => b_X6_advanceNumber_27 hR_1 rfl hR_1 rfl (hR_B K).1 (s_at (hR_B K) (show i < m by omega)) s_isDigit (fun q2 => ?_) (fun q2 => b_X6_advanceNumber_44 (x17 := nI i) hR_1 rfl hR_1 rfl hR_1 rfl (hR_B K).1 (s_at (hR_B K) (show i < m by omega)) hR_1 (by show 6 < 8; decide) (by rw [e2]; exact hR_1) rfl (by rw [e2]; exact hR_1) (by show 4 < 8; decide) ?_))
      · unfold rn
        rw [if_neg (by rw [h01.mp q2]; decide)]
        exact out i h1 (by omega)
      · unfold rn
        rw [if_pos (tb_of q2), nI_1, e2, e3]
        exact ih (i + 1) (by omega) (by omega)
  have := key (m - s) s (Nat.le_refl _) (by omega)
  rw [Nat.sub_self] at this
  exact this
theorem s_advance (K : RB c m f) (he : p.2.1 ≤ m) : MSE m_X6_advance (d + 2) [.ref 1] (hp (hR c p F q)) none (hp (hR c (tkT f m p) F q)) := by
  obtain ⟨s0, e, t, v, r⟩ := p
  have he : e ≤ m := he
  have hm := K.2.2.2
  have e0 : (hp (hR c (s0, e, t, v, r) F q)).set 1 (6, (rdL (s0, e, t, v, r)).set 3 (.int (nI e))) = hp (hR c (e, e, t, v, r) F q) := hR_s1 (p' := (e, e, t, v, r))
  refine e_X6_advance (b_X6_advance_0 hR_1 rfl hR_1 (by show 3 < 8; decide) ?_)
  rw [e0]
  have fin : ∀ s, s = tkA f m e → s ≤ m → SW none m_X6_advance (d + 2) 0 0 52 [some (.ref 1), none] [] (hp (hR c (s, e, t, v, r) F q)) (rV (hp (hR c (tkT f m (s0, e, t, v, r)) F q))) := by
    intro s hs hsm
    have eT : tkT f m (s0, e, t, v, r) = if m ≤ s then (s, s, 0, v, r) else if leB (f s) = true then (s, rn leB f (m - s) s, 1, v, r) else if diB (f s) = true then (s, rn diB f (m - s) s, (if rn diB f (m - s) s - s ≤ 2 then 2 else 4), vlU f s (rn diB f (m - s) s - s), r) else (s, s + 1, (if f s = 59 then 3 else 4), v, r) := by
      rw [hs]; rfl
    rw [eT]
    by_cases h1 : m ≤ s
    · rw [if_pos h1]
      have e3 : (hp (hR c (s, e, t, v, r) F q)).set 1 (6, (rdL (s, e, t, v, r)).set 4 (.int (nI s))) = hp (hR c (s, s, t, v, r) F q) := hR_s1 (p' := (s, s, t, v, r))
      refine b_X6_advance_52 hR_1 rfl hR_1 rfl (hR_B K).1 (s_at0 (hR_B K) (Or.inr (nI_le h1 (by omega)))) hR_1 rfl hR_1 rfl (hR_B K).1 rfl (fun q => absurd q (nI_nlt h1 (by omega))) (fun _ => b_X6_advance_78 hR_1 rfl hR_1 (by show 4 < 8; decide) (by rw [e3]; exact hR_1) (by show 5 < 8; decide) (b_X6_advance_147 ⟨rfl, ?_⟩))
      rw [e3]
      exact hR_s1 (p' := (s, s, 0, v, r))
    · rw [if_neg h1]
      refine b_X6_advance_52 hR_1 rfl hR_1 rfl (hR_B K).1 (s_at (hR_B K) (show s < m by omega)) hR_1 rfl hR_1 rfl (hR_B K).1 rfl (fun _ => b_X6_advance_94 s_isLetter (fun q2 => b_X6_advance_108 s_isDigit (fun q3 => ?_) (fun q3 => b_X6_advance_115 hR_1 (s_advanceNumber K hsm) (b_X6_advance_147 ⟨rfl, ?_⟩))) (fun q2 => b_X6_advance_101 hR_1 (s_advanceWord K hsm) (b_X6_advance_147 ⟨rfl, ?_⟩))) (fun q => absurd (nI_lt (show s < m by omega) (by omega)) q)
      · have e3 : (hp (hR c (s, e, t, v, r) F q)).set 1 (6, (rdL (s, e, t, v, r)).set 4 (.int (nI s + 1))) = hp (hR c (s, s + 1, t, v, r) F q) := by
          rw [nI_1]; exact hR_s1 (p' := (s, s + 1, t, v, r))
        rw [if_neg (show ¬ leB (f s) = true from fun e => by have e2 : leB (f s) = false := h01.mp q2; rw [e2] at e; cases e), if_neg (show ¬ diB (f s) = true from fun e => by have e2 : diB (f s) = false := h01.mp q3; rw [e2] at e; cases e)]
        refine b_X6_advance_122 hR_1 rfl hR_1 (by show 4 < 8; decide) (fun q4 => b_X6_advance_143 (b_X6_advance_144 (by rw [e3]; exact hR_1) (by show 5 < 8; decide) (b_X6_advance_147 ⟨rfl, ?_⟩))) (fun q4 => b_X6_advance_139 (b_X6_advance_144 (by rw [e3]; exact hR_1) (by show 5 < 8; decide) (b_X6_advance_147 ⟨rfl, ?_⟩)))
        · rw [if_neg q4, e3]
          exact hR_s1 (p' := (s, s + 1, 4, v, r))
        · rw [if_pos q4, e3]
          exact hR_s1 (p' := (s, s + 1, 3, v, r))
      · rw [if_neg (show ¬ leB (f s) = true from fun e => by have e2 : leB (f s) = false := h01.mp q2; rw [e2] at e; cases e), if_pos (show diB (f s) = true from tb_of q3)]
      · rw [if_pos (show leB (f s) = true from tb_of q2)]
  have key : ∀ j i, i + j = m → tkA f m e = rn blB f j i → a_X6_advance_8 (d + 2) 0 0 1 (hp (hR c (i, e, t, v, r) F q)) (rV (hp (hR c (tkT f m (s0, e, t, v, r)) F q))) := by
    intro j
    induction j with
    | zero =>
      intro i hi hr
      exact b_X6_advance_8 hR_1 rfl hR_1 rfl (hR_B K).1 rfl (fun _ => fin i hr.symm (by omega)) (fun q => absurd (nI_le (show m ≤ i by omega) (by omega)) q)
    | succ j ih =>
      intro i hi hr
      unfold rn at hr
      refine b_X6_advance_8 hR_1 rfl hR_1 rfl (hR_B K).1 rfl (fun q => absurd q (nI_ge (show i < m by omega) (by omega))) (fun _ => b_X6_advance_22 hR_1 rfl hR_1 rfl (hR_B K).1 (s_at (hR_B K) (show i < m by omega)) s_isBlank (fun q2 => ?_) (fun q2 => b_X6_advance_39 hR_1 rfl hR_1 (by show 3 < 8; decide) ?_))
      · rw [if_neg (by rw [h01.mp q2]; decide)] at hr
        exact fin i hr.symm (by omega)
      · rw [if_pos (tb_of q2)] at hr
        have e1 : (hp (hR c (i, e, t, v, r) F q)).set 1 (6, (rdL (i, e, t, v, r)).set 3 (.int (nI (i + 1)))) = hp (hR c (i + 1, e, t, v, r) F q) := hR_s1 (p' := (i + 1, e, t, v, r))
        have := ih (i + 1) (by omega) hr
        rw [← e1, ← nI_1] at this
        exact this
  exact key (m - e) e (by omega) rfl
theorem tkT_le (he : p.2.1 ≤ m) : (tkT f m p).1 ≤ (tkT f m p).2.1 ∧ (tkT f m p).2.1 ≤ m := by
  have h1 := rn_le (B := blB) (f := f) (m - p.2.1) p.2.1
  have h2 := rn_le (B := leB) (f := f) (m - tkA f m p.2.1) (tkA f m p.2.1)
  have h3 := rn_le (B := diB) (f := f) (m - tkA f m p.2.1) (tkA f m p.2.1)
  have h4 : tkA f m p.2.1 ≤ m := by unfold tkA; omega
  unfold tkT
  split
  · exact ⟨Nat.le_refl _, h4⟩
  · split
    · exact ⟨h2.1, by show rn leB f _ _ ≤ m; omega⟩
    · split
      · exact ⟨h3.1, by show rn diB f _ _ ≤ m; omega⟩
      · exact ⟨Nat.le_succ _, by show tkA f m p.2.1 + 1 ≤ m; omega⟩
end
