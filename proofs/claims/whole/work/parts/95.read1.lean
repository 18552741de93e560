section
variable {d m : Nat} {c c' : Nat → List Value} {f : Nat → Int32} {z : Nat → Int32} {p : rd_p} {x y : Int32} {h : ab_H} {P : ab_O → ab_H → Prop}
/-! bytes: the class holds them signed, the reference not -/
def isB (x : Int32) : Prop := ∃ k, k < 256 ∧ x = if k < 128 then nI k else nI k - 256
def bU (x : Int32) : Int32 := x &&& 255
theorem bu_1 : ∀ k, k < 256 → leB (bU (if k < 128 then nI k else nI k - 256)) = leB (if k < 128 then nI k else nI k - 256) ∧ diB (bU (if k < 128 then nI k else nI k - 256)) = diB (if k < 128 then nI k else nI k - 256) ∧ blB (bU (if k < 128 then nI k else nI k - 256)) = blB (if k < 128 then nI k else nI k - 256) ∧ (bU (if k < 128 then nI k else nI k - 256) = 59 ↔ (if k < 128 then nI k else nI k - 256) = 59) ∧ bU (if k < 128 then nI k else nI k - 256) ≠ -1 ∧ ((leB (if k < 128 then nI k else nI k - 256) || diB (if k < 128 then nI k else nI k - 256)) = true → bU (if k < 128 then nI k else nI k - 256) = if k < 128 then nI k else nI k - 256) ∧ bU (if k < 128 then nI k else nI k - 256) = nI k := by decide +kernel
theorem bu_all (h : isB x) : leB (bU x) = leB x ∧ diB (bU x) = diB x ∧ blB (bU x) = blB x ∧ (bU x = 59 ↔ x = 59) ∧ bU x ≠ -1 ∧ ((leB x || diB x) = true → bU x = x) := by
  obtain ⟨k, hk, e⟩ := h
  rw [e]
  have := bu_1 k hk
  exact ⟨this.1, this.2.1, this.2.2.1, this.2.2.2.1, this.2.2.2.2.1, this.2.2.2.2.2.1⟩
theorem tc_le : ∀ t, t < 6 → ∀ i, i < tl t → leB (tc t i) = true := by decide +kernel
theorem bu_tc (h : isB x) {t i : Nat} (ht : t < 6) (hi : i < tl t) : bU x = tc t i ↔ x = tc t i := by
  obtain ⟨h1, -, -, -, -, h6⟩ := bu_all h
  have hl := tc_le t ht i hi
  constructor
  · intro e
    rw [← h6 (by rw [← h1, e, hl]; rfl)]; exact e
  · intro e
    rw [h6 (by rw [e, hl]; rfl)]; exact e
theorem r_isSmall : MSE m_X10_isSmall d [.int x] h (some (.int (nI (if leB x = true then 1 else 0)))) h := by
  refine e_X10_isSmall (b_X10_isSmall_0 (fun q => b_X10_isSmall_16 (b_X10_isSmall_17 (by decide) ⟨?_, rfl⟩)) (fun q => b_X10_isSmall_6 (fun q2 => b_X10_isSmall_16 (b_X10_isSmall_17 (by decide) ⟨?_, rfl⟩)) (fun q2 => b_X10_isSmall_12 (b_X10_isSmall_17 (by decide) ⟨?_, rfl⟩))))
  · unfold leB; rw [decide_eq_true q]; rfl
  · unfold leB; rw [decide_eq_true q2, Bool.not_true, Bool.and_false]; rfl
  · unfold leB; rw [decide_eq_false q, decide_eq_false q2]; rfl
theorem r_isDigit : MSE m_X10_isDigit d [.int x] h (some (.int (nI (if diB x = true then 1 else 0)))) h := by
  refine e_X10_isDigit (b_X10_isDigit_0 (fun q => b_X10_isDigit_16 (b_X10_isDigit_17 (by decide) ⟨?_, rfl⟩)) (fun q => b_X10_isDigit_6 (fun q2 => b_X10_isDigit_16 (b_X10_isDigit_17 (by decide) ⟨?_, rfl⟩)) (fun q2 => b_X10_isDigit_12 (b_X10_isDigit_17 (by decide) ⟨?_, rfl⟩))))
  · unfold diB; rw [decide_eq_true q]; rfl
  · unfold diB; rw [decide_eq_true q2, Bool.not_true, Bool.and_false]; rfl
  · unfold diB; rw [decide_eq_false q, decide_eq_false q2]; rfl
/-- the reader's fields: end, start, sort, number -/
def zg (z : Nat → Int32) (e : Nat) (s t v : Int32) : Nat → Int32 := fun i => if i = 15 then nI e else if i = 16 then s else if i = 17 then t else if i = 18 then v else z i
def cz (c : Nat → List Value) (z : Nat → Int32) (e : Nat) (s t v : Int32) : Nat → List Value := up1 c 70 (moL (zg z e s t v))
section
variable {e e2 : Nat} {s s2 t v t2 v2 : Int32}
theorem cz_M : (hp (cz c z e s t v))[70]? = some (10, moL (zg z e s t v)) := mo_H (up1_same _ _ _)
theorem cz_15 : (hp (cz c z e s t v)).set 70 (10, (moL (zg z e s t v)).set 15 (.int (nI e2))) = hp (cz c z e2 s t v) := by
  rw [hp_set (by decide) (by decide), show (moL (zg z e s t v)).set 15 (.int (nI e2)) = moL (zg z e2 s t v) from rfl]
  unfold cz
  rw [up1_up1]
theorem cz_16 : (hp (cz c z e s t v)).set 70 (10, (moL (zg z e s t v)).set 16 (.int s2)) = hp (cz c z e s2 t v) := by
  rw [hp_set (by decide) (by decide), show (moL (zg z e s t v)).set 16 (.int s2) = moL (zg z e s2 t v) from rfl]
  unfold cz
  rw [up1_up1]
theorem cz_17 : (hp (cz c z e s t v)).set 70 (10, (moL (zg z e s t v)).set 17 (.int t2)) = hp (cz c z e s t2 v) := by
  rw [hp_set (by decide) (by decide), show (moL (zg z e s t v)).set 17 (.int t2) = moL (zg z e s t2 v) from rfl]
  unfold cz
  rw [up1_up1]
theorem cz_18 : (hp (cz c z e s t v)).set 70 (10, (moL (zg z e s t v)).set 18 (.int v2)) = hp (cz c z e s t v2) := by
  rw [hp_set (by decide) (by decide), show (moL (zg z e s t v)).set 18 (.int v2) = moL (zg z e s t v2) from rfl]
  unfold cz
  rw [up1_up1]
/-- the buffer of the reference, of a size -/
def BF (c : Nat → List Value) (z : Nat → Int32) (m : Nat) (f : Nat → Int32) : Prop := c 77 = ar 400 (fun i => bU (f i)) ∧ z 14 = nI m ∧ m ≤ 400 ∧ ∀ i, isB (f i)
def bt (f : Nat → Int32) (m i : Nat) : Int32 := if i < m then bU (f i) else -1
theorem bt_le (B : BF c z m f) {i : Nat} : leB (bt f m i) = (decide (i < m) && leB (f i)) := by
  unfold bt
  by_cases h : i < m
  · rw [if_pos h, (bu_all (B.2.2.2 i)).1, decide_eq_true h]; rfl
  · rw [if_neg h, decide_eq_false h, Bool.false_and]; decide
theorem bt_di (B : BF c z m f) {i : Nat} : diB (bt f m i) = (decide (i < m) && diB (f i)) := by
  unfold bt
  by_cases h : i < m
  · rw [if_pos h, (bu_all (B.2.2.2 i)).2.1, decide_eq_true h]; rfl
  · rw [if_neg h, decide_eq_false h, Bool.false_and]; decide
theorem bt_bl (B : BF c z m f) {i : Nat} : blB (bt f m i) = (decide (i < m) && blB (f i)) := by
  unfold bt
  by_cases h : i < m
  · rw [if_pos h, (bu_all (B.2.2.2 i)).2.2.1, decide_eq_true h]; rfl
  · rw [if_neg h, decide_eq_false h, Bool.false_and]; decide
theorem cz_77 (B : BF c z m f) : (hp (cz c z e s t v))[77]? = some (100, ar 400 (fun i => bU (f i))) := hp_is 77 100 ((up1_ne _ _ (by decide)).trans B.1) (by decide) (by decide)
theorem r_byteAt (B : BF c z m f) {i : Nat} (hi : i < 1000) : MSE m_X10_byteAt d [.ref 70, .int (nI i)] (hp (cz c z e s t v)) (some (.int (bt f m i))) (hp (cz c z e s t v)) := by
  have hm := B.2.2.1
  have f14 : (moL (zg z e s t v))[14]? = some (.int (nI m)) := by rw [← B.2.1]; rfl
  unfold bt
  by_cases h : i < m
  · rw [if_pos h]
    exact e_X10_byteAt (b_X10_byteAt_0 cz_M f14 (fun q => absurd q (nI_ge h (by omega))) (fun _ => b_X10_byteAt_8 cz_M rfl (cz_77 B) (nI_pos (by omega)) (by rw [cl_nI (by omega)]; exact ar_at _ (by omega)) (b_X10_byteAt_18 ⟨rfl, rfl⟩)))
  · rw [if_neg h]
    exact e_X10_byteAt (b_X10_byteAt_0 cz_M f14 (fun _ => b_X10_byteAt_17 (b_X10_byteAt_18 ⟨rfl, rfl⟩)) (fun q => absurd (nI_le (show m ≤ i by omega) (by omega)) q))
/-- the class's tokens as the reference's sorts -/
def sM (t : Nat) : Int32 := if t = 0 then 0 else if t = 1 then 2 else if t = 2 then 3 else if t = 3 then 4 else 1
theorem g_word (B : BF c z m f) : ∀ j i, i + j = m → SW none m_X10_go (d + 2) 0 0 76 [some (.ref 70), none] [] (hp (cz c z i s t v)) (rV (hp (cz c z (rn leB f j i) s 2 v))) := by
  have hm := B.2.2.1
  intro j
  have out : ∀ i, SW none m_X10_go (d + 2) 0 0 103 [some (.ref 70), none] [] (hp (cz c z i s t v)) (rV (hp (cz c z i s 2 v))) := fun i => b_X10_go_103 cz_M (by show 17 < 27; decide) (b_X10_go_237 ⟨rfl, cz_17⟩)
  induction j with
  | zero =>
    intro i hi
    refine b_X10_go_76 cz_M rfl cz_M (r_byteAt B (by omega)) r_isSmall (fun _ => out i) (fun q => ?_)
    have := tb_of q
    rw [bt_le B, decide_eq_false (show ¬ i < m by omega)] at this
    cases this
  | succ j ih =>
    intro i hi
    have e := bt_le B (i := i)
    rw [decide_eq_true (show i < m by omega), Bool.true_and] at e
    unfold rn
    refine b_X10_go_76 cz_M rfl cz_M (r_byteAt B (by omega)) r_isSmall (fun q => ?_) (fun q => b_X10_go_90 (x3 := nI i) cz_M rfl cz_M (by show 15 < 27; decide) ?_)
    · have := h01.mp q
      rw [e] at this
      rw [if_neg (by rw [this]; decide)]
      exact out i
    · have := tb_of q
      rw [e] at this
      rw [if_pos this, nI_1, cz_15]
      exact ih (i + 1) (by omega)
theorem vl_s {s k : Nat} : vlU f s (k + 1) = 10 * vlU f s k + f (s + k) - 48 := rfl
theorem g_num {s : Nat} (B : BF c z m f) (hs : s ≤ m) : ∀ j i, s ≤ i → i + j = m → SW none m_X10_go (d + 2) 0 0 123 [some (.ref 70), none] [] (hp (cz c z i (nI s) t (vlU f s (min (i - s) 2)))) (rV (hp (cz c z (rn diB f j i) (nI s) (if rn diB f j i - s ≤ 2 then 3 else 1) (vlU f s (min (rn diB f j i - s) 2))))) := by
  have hm := B.2.2.1
  intro j
  have out : ∀ i, s ≤ i → i ≤ m → SW none m_X10_go (d + 2) 0 0 187 [some (.ref 70), none] [] (hp (cz c z i (nI s) t (vlU f s (min (i - s) 2)))) (rV (hp (cz c z i (nI s) (if i - s ≤ 2 then 3 else 1) (vlU f s (min (i - s) 2))))) := fun i h1 h2 => by
    refine b_X10_go_187 (x3 := nI i) (x5 := nI s) cz_M rfl cz_M rfl (fun q => b_X10_go_205 (b_X10_go_206 cz_M (by show 17 < 27; decide) (b_X10_go_237 ⟨rfl, ?_⟩))) (fun q => b_X10_go_201 (b_X10_go_206 cz_M (by show 17 < 27; decide) (b_X10_go_237 ⟨rfl, ?_⟩)))
    · rw [pk_sub h1] at q
      rw [if_pos ((nI_leI (b := 2) (by omega) (by decide)).mp q)]
      exact cz_17
    · rw [pk_sub h1] at q
      rw [if_neg (fun q3 => q ((nI_leI (b := 2) (by omega) (by decide)).mpr q3))]
      exact cz_17
  induction j with
  | zero =>
    intro i h1 hi
    refine b_X10_go_123 cz_M rfl cz_M (r_byteAt B (by omega)) r_isDigit (fun _ => out i h1 (by omega)) (fun q => ?_)
    have := tb_of q
    rw [bt_di B, decide_eq_false (show ¬ i < m by omega)] at this
    cases this
  | succ j ih =>
    intro i h1 hi
    have e := bt_di B (i := i)
    rw [decide_eq_true (show i < m by omega), Bool.true_and] at e
    unfold rn
    refine b_X10_go_123 cz_M rfl cz_M (r_byteAt B (by omega)) r_isDigit (fun q => ?_) (fun q => ?_)
    · have := h01.mp q
      rw [e] at this
      rw [if_neg (by rw [this]; decide)]
      exact out i h1 (by omega)
    · have hd := tb_of q
      rw [e] at hd
      rw [if_pos hd]
      have nx := ih (i + 1) (by omega) (by omega)
      have st : SW none m_X10_go (d + 2) 0 0 174 [some (.ref 70), none] [] (hp (cz c z i (nI s) t (vlU f s (min (i + 1 - s) 2)))) (rV (hp (cz c z (rn diB f j (i + 1)) (nI s) (if rn diB f j (i + 1) - s ≤ 2 then 3 else 1) (vlU f s (min (rn diB f j (i + 1) - s) 2))))) := by
        refine b_X10_go_174 (x3 := nI i) cz_M rfl cz_M (by show 15 < 27; decide) ?_
        rw [nI_1, cz_15]
        exact nx
      refine b_X10_go_137 (x2 := nI i) (x4 := nI s) cz_M rfl cz_M rfl (fun q2 => ?_) (fun q2 => b_X10_go_150 (x4 := vlU f s (min (i - s) 2)) (x9 := nI i) (x10 := bU (f i)) cz_M rfl cz_M rfl cz_M rfl (cz_77 B) (nI_pos (by omega)) (by rw [cl_nI (by omega)]; exact ar_at _ (by omega)) cz_M (by show 18 < 27; decide) ?_)
      · rw [pk_sub h1] at q2
        have q2 := (nI_leI (a := 2) (by decide) (by omega)).mp q2
        rw [show min (i - s) 2 = min (i + 1 - s) 2 by omega]
        exact st
      · rw [pk_sub h1] at q2
        have q2 : ¬ 2 ≤ i - s := fun q3 => q2 ((nI_leI (a := 2) (by decide) (by omega)).mpr q3)
        rw [cz_18, show min (i - s) 2 = i - s by omega, (bu_all (B.2.2.2 i)).2.2.2.2.2 (by rw [hd, Bool.or_true])]
        have e4 : 10 * vlU f s (i - s) + f i - 48 = vlU f s (min (i + 1 - s) 2) := by
          rw [show min (i + 1 - s) 2 = (i - s) + 1 by omega, vl_s, show s + (i - s) = i by omega]
        rw [e4]
        exact st
/-- blanks -/
theorem g_blank (B : BF c z m f) (he : e ≤ m) (K : SW none m_X10_go (d + 2) 0 0 39 [some (.ref 70), none] [] (hp (cz c z (tkA f m e) s t v)) P) : SW none m_X10_go (d + 2) 0 0 0 [some (.ref 70), none] [] (hp (cz c z e s t v)) P := by
  have hm := B.2.2.1
  have key : ∀ j i, i + j = m → tkA f m e = rn blB f j i → SW none m_X10_go (d + 2) 0 0 0 [some (.ref 70), none] [] (hp (cz c z i s t v)) P := by
    intro j
    have stop : ∀ i, i ≤ m → tkA f m e = i → blB (bt f m i) = false → SW none m_X10_go (d + 2) 0 0 0 [some (.ref 70), none] [] (hp (cz c z i s t v)) P := fun i h1 h2 h3 => by
      unfold blB at h3
      rw [Bool.or_eq_false_iff] at h3
      rw [h2] at K
      exact b_X10_go_0 (x3 := nI i) cz_M rfl cz_M (r_byteAt B (by omega)) (fun q => absurd q (of_decide_eq_false h3.1)) (fun _ => b_X10_go_13 (x3 := nI i) cz_M rfl cz_M (r_byteAt B (by omega)) (fun _ => K) (fun q => absurd q (of_decide_eq_false h3.2)))
    induction j with
    | zero =>
      intro i hi hr
      exact stop i (by omega) hr (by rw [bt_bl B, decide_eq_false (show ¬ i < m by omega), Bool.false_and])
    | succ j ih =>
      intro i hi hr
      have e2 := bt_bl B (i := i)
      rw [decide_eq_true (show i < m by omega), Bool.true_and] at e2
      unfold rn at hr
      by_cases hb : blB (f i) = true
      · rw [if_pos hb] at hr
        have nx : SW none m_X10_go (d + 2) 0 0 26 [some (.ref 70), none] [] (hp (cz c z i s t v)) P := by
          refine b_X10_go_26 (x3 := nI i) cz_M rfl cz_M (by show 15 < 27; decide) ?_
          rw [nI_1, cz_15]
          exact ih (i + 1) (by omega) hr
        refine b_X10_go_0 (x3 := nI i) cz_M rfl cz_M (r_byteAt B (by omega)) (fun _ => nx) (fun q => b_X10_go_13 (x3 := nI i) cz_M rfl cz_M (r_byteAt B (by omega)) (fun q2 => ?_) (fun _ => nx))
        rw [hb] at e2
        unfold blB at e2
        rw [decide_eq_false q, decide_eq_false q2] at e2
        cases e2
      · rw [if_neg hb] at hr
        exact stop i (by omega) hr (by rw [e2]; exact Bool.not_eq_true _ ▸ hb)
  exact key (m - e) e (by omega) rfl
end
theorem cz_same (hz : c 70 = moL z) {e : Nat} (h15 : z 15 = nI e) : cz c z e (z 16) (z 17) (z 18) = c := by
  have : zg z e (z 16) (z 17) (z 18) = z := funext fun i => by
    unfold zg
    by_cases h1 : i = 15
    · rw [if_pos h1, h1, h15]
    · rw [if_neg h1]
      by_cases h2 : i = 16
      · rw [if_pos h2, h2]
      · rw [if_neg h2]
        by_cases h3 : i = 17
        · rw [if_pos h3, h3]
        · rw [if_neg h3]
          by_cases h4 : i = 18
          · rw [if_pos h4, h4]
          · rw [if_neg h4]
  unfold cz
  rw [this]; exact up1_id hz
/-- the next token -/
theorem r_go (B : BF c z m f) (hz : c 70 = moL z) (h15 : z 15 = nI p.2.1) (he : p.2.1 ≤ m) : ∃ v, MSE m_X10_go (d + 2) [.ref 70] (hp c) none (hp (cz c z (tkT f m p).2.1 (nI (tkT f m p).1) (sM (tkT f m p).2.2.1) v)) ∧ ((tkT f m p).2.2.1 = 2 → v = (tkT f m p).2.2.2.1) := by
  obtain ⟨s0, e, t, v, r⟩ := p
  have he : e ≤ m := he
  have h15 : z 15 = nI e := h15
  have hm := B.2.2.1
  have st : ∀ c', SW none m_X10_go (d + 2) 0 0 39 [some (.ref 70), none] [] (hp (cz c z (tkA f m e) (z 16) (z 17) (z 18))) (rV (hp c')) → MSE m_X10_go (d + 2) [.ref 70] (hp c) none (hp c') := fun c' K => by
    have := g_blank B he K
    rw [cz_same hz h15] at this
    exact e_X10_go this
  have hSm : tkA f m e ≤ m := by
    have h1 := rn_le (B := blB) (f := f) (m - e) e
    unfold tkA; omega
  have eT : tkT f m (s0, e, t, v, r) = if m ≤ tkA f m e then (tkA f m e, tkA f m e, 0, v, r) else if leB (f (tkA f m e)) = true then (tkA f m e, rn leB f (m - tkA f m e) (tkA f m e), 1, v, r) else if diB (f (tkA f m e)) = true then (tkA f m e, rn diB f (m - tkA f m e) (tkA f m e), (if rn diB f (m - tkA f m e) (tkA f m e) - tkA f m e ≤ 2 then 2 else 4), vlU f (tkA f m e) (rn diB f (m - tkA f m e) (tkA f m e) - tkA f m e), r) else (tkA f m e, tkA f m e + 1, (if f (tkA f m e) = 59 then 3 else 4), v, r) := rfl
  rw [eT]
  obtain ⟨S, hS⟩ : ∃ S, S = tkA f m e := ⟨_, rfl⟩
  rw [← hS] at hSm ⊢
  rw [← hS] at st
  by_cases h1 : m ≤ S
  · rw [if_pos h1]
    refine ⟨z 18, st _ (b_X10_go_39 (x3 := nI S) cz_M rfl cz_M (by show 16 < 27; decide) (by rw [cz_16]; exact cz_M) rfl (by rw [cz_16]; exact cz_M) (by rw [cz_16]; exact r_byteAt (d := d + 1) B (by omega)) (fun q => ?_) (fun _ => b_X10_go_61 cz_M (by show 17 < 27; decide) (b_X10_go_237 ⟨rfl, cz_17⟩))), fun h => by cases h⟩
    exact absurd (if_neg (by omega)) q
  · rw [if_neg h1]
    have hb := bu_all (B.2.2.2 S)
    have eb : bt f m S = bU (f S) := if_pos (by omega)
    have l1 := bt_le B (i := S)
    have l2 := bt_di B (i := S)
    rw [decide_eq_true (show S < m by omega), Bool.true_and] at l1 l2
    have s69 : ∀ c', SW none m_X10_go (d + 2) 0 0 69 [some (.ref 70), some (.int (bt f m S))] [] (hp (cz c z S (nI S) (z 17) (z 18))) (rV (hp c')) → MSE m_X10_go (d + 2) [.ref 70] (hp c) none (hp c') := fun c' K => st _ (b_X10_go_39 (x3 := nI S) cz_M rfl cz_M (by show 16 < 27; decide) (by rw [cz_16]; exact cz_M) rfl (by rw [cz_16]; exact cz_M) (by rw [cz_16]; exact r_byteAt (d := d + 1) B (by omega)) (fun _ => K) (fun q => absurd (eb.symm.trans q) hb.2.2.2.2.1))
    by_cases h2 : leB (f S) = true
    · rw [if_pos h2]
      exact ⟨z 18, s69 _ (b_X10_go_69 r_isSmall (fun q => by rw [l1] at q; exact absurd q (nv1 h2)) (fun _ => g_word B (m - S) S (by omega))), fun h => by cases h⟩
    · rw [if_neg h2]
      have h2 : leB (f S) = false := Bool.not_eq_true _ ▸ h2
      by_cases h3 : diB (f S) = true
      · rw [if_pos h3]
        have kk := g_num (d := d) (t := z 17) B hSm (m - S) S (Nat.le_refl S) (by omega)
        rw [Nat.sub_self] at kk
        obtain ⟨E, hE⟩ : ∃ E, E = rn diB f (m - S) S := ⟨_, rfl⟩
        rw [← hE] at kk ⊢
        refine ⟨vlU f S (min (E - S) 2), s69 _ (b_X10_go_69 r_isSmall (fun _ => b_X10_go_111 r_isDigit (fun q => by rw [l2] at q; exact absurd q (nv1 h3)) (fun _ => b_X10_go_118 cz_M (by show 18 < 27; decide) ?_)) (fun q => by rw [l1] at q; exact absurd (nv0 h2) q)), fun h => ?_⟩
        · rw [cz_18]
          have e1 : sM (if E - S ≤ 2 then 2 else 4) = if E - S ≤ 2 then 3 else 1 := by split <;> rfl
          show SW none m_X10_go (d + 2) 0 0 123 [some (.ref 70), none] [] _ (rV (hp (cz c z E (nI S) (sM (if E - S ≤ 2 then 2 else 4)) (vlU f S (min (E - S) 2)))))
          rw [e1]; exact kk
        · have h : (if E - S ≤ 2 then 2 else 4) = 2 := h
          have : E - S ≤ 2 := Decidable.byContradiction fun q => by rw [if_neg q] at h; cases h
          show _ = vlU f S (E - S)
          rw [show min (E - S) 2 = E - S by omega]
      · rw [if_neg h3]
        have h3 : diB (f S) = false := Bool.not_eq_true _ ▸ h3
        refine ⟨z 18, s69 _ (b_X10_go_69 r_isSmall (fun _ => b_X10_go_111 r_isDigit (fun _ => b_X10_go_212 (x3 := nI S) cz_M rfl cz_M (by show 15 < 27; decide) (fun q => ?_) (fun q => ?_)) (fun q => by rw [l2] at q; exact absurd (nv0 h3) q)) (fun q => by rw [l1] at q; exact absurd (nv0 h2) q)), fun h => ?_⟩
        · rw [eb] at q
          have : ¬ f S = 59 := fun e => q (hb.2.2.2.1.mpr e)
          show SW none m_X10_go (d + 2) 0 0 233 _ _ _ (rV (hp (cz c z (S + 1) (nI S) (sM (if f S = 59 then 3 else 4)) (z 18))))
          rw [if_neg this, nI_1, cz_15]
          exact b_X10_go_233 (b_X10_go_234 cz_M (by show 17 < 27; decide) (b_X10_go_237 ⟨rfl, cz_17⟩))
        · rw [eb] at q
          show SW none m_X10_go (d + 2) 0 0 229 _ _ _ (rV (hp (cz c z (S + 1) (nI S) (sM (if f S = 59 then 3 else 4)) (z 18))))
          rw [if_pos (hb.2.2.2.1.mp q), nI_1, cz_15]
          exact b_X10_go_229 (b_X10_go_234 cz_M (by show 17 < 27; decide) (b_X10_go_237 ⟨rfl, cz_17⟩))
        · exfalso
          have h : (if f S = 59 then 3 else 4) = 2 := h
          split at h <;> cases h
end
