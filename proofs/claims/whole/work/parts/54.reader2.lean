section
variable {d m : Nat} {c : Nat → List Value} {f : Nat → Int32} {p : rd_p} {F : rd_f} {q : Nat → Nat}
def flP (p : rd_p) (k : Int32) : rd_p := (p.1, p.2.1, p.2.2.1, p.2.2.2.1, 8 * nI p.1 + k)
theorem s_fail {k : Int32} : MSE m_X6_fail d [.ref 1, .int k] (hp (hR c p F q)) (some (.int 0)) (hp (hR c (flP p k) F q)) :=
  e_X6_fail (b_X6_fail_0 hR_1 rfl hR_1 (by show 7 < 8; decide) ⟨rfl, (hR_s1 (p' := flP p k)).symm |> fun e => e.symm⟩)
def rdOk (m : Nat) (p : rd_p) : Prop := p.1 ≤ p.2.1 ∧ p.2.1 ≤ m
def wdB (f : Nat → Int32) (t : Nat) (p : rd_p) : Bool := decide (p.2.2.1 = 1) && (decide (p.2.1 - p.1 = tl t) && (List.range (tl t)).all (fun i => decide (f (p.1 + i) = tc t i)))
theorem tl_lt {t : Nat} (ht : t < 6) : tl t < 10 := by
  rcases (show t = 0 ∨ t = 1 ∨ t = 2 ∨ t = 3 ∨ t = 4 ∨ t = 5 by omega) with rfl | rfl | rfl | rfl | rfl | rfl <;> decide
theorem s_isWord (K : RB c m f) (ok : rdOk m p) (h3 : p.2.2.1 < 10) {t : Nat} (ht : t < 6) : MSE m_X6_isWord (d + 4) [.ref 1, .retAddr t] (hp (hR c p F q)) (some (.int (nI (if wdB f t p = true then 1 else 0)))) (hp (hR c p F q)) := by
  have hm := K.2.2.2
  have hl := tl_lt ht
  obtain ⟨ok1, ok2⟩ := ok
  refine e_X6_isWord (b_X6_isWord_0 hR_1 rfl (fun q1 => b_X6_isWord_24 ⟨?_, rfl⟩) (fun q1 => b_X6_isWord_8 hR_1 rfl hR_1 rfl ht ht (s_strlen ht) (fun q2 => b_X6_isWord_26 ht ?_) (fun q2 => b_X6_isWord_24 ⟨?_, rfl⟩)))
  · have : ¬ p.2.2.1 = 1 := fun e => q1 (by rw [e]; rfl)
    unfold wdB
    rw [decide_eq_false this]; rfl
  · have q1 : nI p.2.2.1 = 1 := q1
    have e1 := (i_eq (b := 1) (by omega) (by decide)).mp q1
    have q2 : nI p.2.1 - nI p.1 = nI (tl t) := q2
    rw [pk_sub ok1] at q2
    have e2 := (i_eq (by omega) (by omega)).mp q2
    have e3 : wdB f t p = (List.range (tl t)).all (fun i => decide (f (p.1 + i) = tc t i)) := by
      unfold wdB
      rw [decide_eq_true e1, decide_eq_true e2]; rfl
    rw [e3]
    have key := up_all (n := tl t) (T := fun k => (∀ j, j < k → f (p.1 + j) = tc t j) → a_X6_isWord_28 (d + 4) 0 0 1 t (nI k) (hp (hR c p F q)) (rI (nI (if (List.range (tl t)).all (fun i => decide (f (p.1 + i) = tc t i)) = true then 1 else 0)) (hp (hR c p F q)))) (fun k hk ih hz => ?_) (fun hz => ?_)
    · exact key (fun j hj => absurd hj (Nat.not_lt_zero j))
    · refine b_X6_isWord_28 ht ht (s_strlen ht) (fun q => absurd q (nI_ge hk (by omega))) (fun _ => b_X6_isWord_36 hR_1 rfl hR_1 rfl (hR_B K).1 (by rw [nI_add]; exact s_at (hR_B K) (show p.1 + k < m by omega)) ht ht (s_charAt ht hk) (fun q3 => b_X6_isWord_59 ht ?_) (fun q3 => b_X6_isWord_57 ⟨?_, rfl⟩))
      · rw [nI_1]
        exact ih (fun j hj => by
          rcases Nat.lt_succ_iff_lt_or_eq.mp hj with h | h
          · exact hz j h
          · rw [h]; exact q3)
      · have : (List.range (tl t)).all (fun i => decide (f (p.1 + i) = tc t i)) = false := by
          rw [List.all_eq_false]
          exact ⟨k, List.mem_range.mpr hk, by rw [decide_eq_false q3]; decide⟩
        rw [this]; rfl
    · have : (List.range (tl t)).all (fun i => decide (f (p.1 + i) = tc t i)) = true := by
        rw [List.all_eq_true]
        exact fun j hj => decide_eq_true (hz j (List.mem_range.mp hj))
      rw [this]
      exact b_X6_isWord_28 ht ht (s_strlen ht) (fun _ => b_X6_isWord_65 ⟨rfl, rfl⟩) (fun q => absurd (nI_le (Nat.le_refl _) (by omega)) q)
  · have q2 : ¬ nI p.2.1 - nI p.1 = nI (tl t) := q2
    rw [pk_sub ok1] at q2
    have e2 : ¬ p.2.1 - p.1 = tl t := fun e => q2 (by rw [e])
    unfold wdB
    rw [decide_eq_false e2, Bool.false_and, Bool.and_false]; rfl
/-- results: yes or no, and what the reader is then -/
def nnR (p : rd_p) (a b : Int32) : Bool × rd_p := if p.2.2.1 = 2 then (if p.2.2.2.1 < a ∨ ¬ p.2.2.2.1 ≤ b then (false, flP p 2) else (true, p)) else (false, flP p 1)
theorem bl01 {b : Bool} : narrow .boolean (.int (nI (if b = true then 1 else 0))) = .int (nI (if b = true then 1 else 0)) := by cases b <;> decide
theorem s_needNumber (h3 : p.2.2.1 < 10) {a b : Int32} : MSE m_X6_needNumber (d + 1) [.ref 1, .int a, .int b] (hp (hR c p F q)) (some (.int (nI (if (nnR p a b).1 = true then 1 else 0)))) (hp (hR c (nnR p a b).2 F q)) := by
  refine e_X6_needNumber (b_X6_needNumber_0 hR_1 rfl (fun q1 => ?_) (fun q1 => b_X6_needNumber_8 hR_1 s_fail (by decide) ?_))
  · have q1 : nI p.2.2.1 = 2 := q1
    have e1 := (i_eq (b := 2) (by omega) (by decide)).mp q1
    refine b_X6_needNumber_14 hR_1 rfl (fun q2 => b_X6_needNumber_30 hR_1 s_fail (fun _ => b_X6_needNumber_42 (b_X6_needNumber_43 (by decide) ?_)) (fun q => absurd rfl q)) (fun q2 => b_X6_needNumber_22 hR_1 rfl (fun q3 => b_X6_needNumber_38 (b_X6_needNumber_43 (by decide) ?_)) (fun q3 => b_X6_needNumber_30 hR_1 s_fail (fun _ => b_X6_needNumber_42 (b_X6_needNumber_43 (by decide) ?_)) (fun q => absurd rfl q)))
    · rw [show nnR p a b = (false, flP p 2) by unfold nnR; rw [if_pos e1, if_pos (Or.inl q2)]]; exact ⟨rfl, rfl⟩
    · rw [show nnR p a b = (true, p) by unfold nnR; rw [if_pos e1, if_neg (fun e => e.elim (fun e => q2 e) (fun e => e q3))]]; exact ⟨rfl, rfl⟩
    · rw [show nnR p a b = (false, flP p 2) by unfold nnR; rw [if_pos e1, if_pos (Or.inr q3)]]; exact ⟨rfl, rfl⟩
  · have e1 : ¬ p.2.2.1 = 2 := fun e => q1 (by rw [e]; rfl)
    rw [show nnR p a b = (false, flP p 1) by unfold nnR; rw [if_neg e1]]
    exact ⟨rfl, rfl⟩
def enR (f : Nat → Int32) (m : Nat) (p : rd_p) : Bool × rd_p := if p.2.2.1 = 3 then (true, tkT f m p) else (false, flP p 1)
theorem s_endStatement (K : RB c m f) (ok : rdOk m p) (h3 : p.2.2.1 < 10) : MSE m_X6_endStatement (d + 3) [.ref 1] (hp (hR c p F q)) (some (.int (nI (if (enR f m p).1 = true then 1 else 0)))) (hp (hR c (enR f m p).2 F q)) := by
  refine e_X6_endStatement (b_X6_endStatement_0 hR_1 rfl (fun q1 => b_X6_endStatement_14 hR_1 (s_advance K ok.2) ?_) (fun q1 => b_X6_endStatement_8 hR_1 s_fail (by decide) ?_))
  · have q1 : nI p.2.2.1 = 3 := q1
    have e1 := (i_eq (b := 3) (by omega) (by decide)).mp q1
    rw [show enR f m p = (true, tkT f m p) from if_pos e1]; exact ⟨rfl, rfl⟩
  · have e1 : ¬ p.2.2.1 = 3 := fun e => q1 (by rw [e]; rfl)
    rw [show enR f m p = (false, flP p 1) from if_neg e1]; exact ⟨rfl, rfl⟩
theorem tkT_t : (tkT f m p).2.2.1 < 10 := by
  unfold tkT
  split
  · exact (by show 0 < 10; decide)
  · split
    · exact (by show 1 < 10; decide)
    · split
      · show (if _ then 2 else 4) < 10
        split <;> decide
      · show (if _ then 3 else 4) < 10
        split <;> decide
theorem tkT_ok (ok : rdOk m p) : rdOk m (tkT f m p) := tkT_le ok.2
/-- the value as a number -/
def vn (p : rd_p) : Nat := p.2.2.2.1.toNatClampNeg
theorem vn_ok {a b : Nat} {p p' : rd_p} (hb : b < 2147483648) (h : nnR p (nI a) (nI b) = (true, p')) : p' = p ∧ p.2.2.1 = 2 ∧ a ≤ vn p ∧ vn p ≤ b ∧ p.2.2.2.1 = nI (vn p) ∨ ¬ a < 2147483648 := by
  by_cases ha : a < 2147483648
  · left
    unfold nnR at h
    split at h
    · rename_i h1
      split at h
      · cases h
      · rename_i h2
        have h3 : ¬ p.2.2.2.1 < nI a := fun e => h2 (Or.inl e)
        have h4 : p.2.2.2.1 ≤ nI b := Decidable.byContradiction (fun e => h2 (Or.inr e))
        have h5 : ¬ p.2.2.2.1 < 0 := fun e => h3 (by
          have e1 := Int32.lt_iff_toInt_lt.mp e
          have e2 := nI_toInt ha
          refine Int32.lt_iff_toInt_lt.mpr ?_
          rw [e2]
          have e3 : (0 : Int32).toInt = 0 := by decide
          rw [e3] at e1
          omega)
        obtain ⟨j, hj, e⟩ := nI_of h5
        have hv : vn p = j := by unfold vn; rw [e]; exact cl_nI hj
        rw [e] at h3 h4
        cases h
        refine ⟨rfl, h1, ?_, ?_, by rw [hv]; exact e⟩
        · rw [hv]
          rcases Nat.lt_or_ge j a with q | q
          · exact absurd (nI_lt q ha) h3
          · exact q
        · rw [hv]; exact (nI_leI hj hb).mp h4
    · cases h
  · exact Or.inr ha
theorem ds_self {g : Nat → Nat} {n a : Nat} (h1 : 1 ≤ n) : ds g n a a = some 0 := by
  obtain ⟨k, rfl⟩ : ∃ k, n = k + 1 := ⟨n - 1, by omega⟩
  unfold ds dsU
  rw [if_pos (by rw [pow_bit, decide_eq_true rfl])]
/-- the ends of a path or a star -/
def reU (f : Nat → Int32) (m : Nat) (star : Bool) : Nat → Nat → Nat → rd_p → rd_f → Bool × rd_p × rd_f
  | 0, _, _, p, F => (true, p, F)
  | j + 1, k, a, p, F => if k ≠ 0 ∧ p.2.2.1 ≠ 2 then (true, p, F) else if (nnR p 0 (nI F.1 - 1)).1 = true then (if ds F.2.1 F.1 a (vn p) = none then reU f m star j (k + 1) (if star = true then a else vn p) (tkT f m p) (F.1, jn F.2.1 a (vn p), F.2.2) else (false, flP p 3, F)) else (false, (nnR p 0 (nI F.1 - 1)).2, F)
def reR (f : Nat → Int32) (m : Nat) (star : Bool) (most : Nat) (p : rd_p) (F : rd_f) : Bool × rd_p × rd_f := if (nnR (tkT f m p) 0 (nI F.1 - 1)).1 = true then reU f m star most 0 (vn (tkT f m p)) (tkT f m (tkT f m p)) F else (false, (nnR (tkT f m p) 0 (nI F.1 - 1)).2, F)
/-- a number below the size -/
theorem vn_in {n : Nat} {p : rd_p} (h1 : 1 ≤ n) (hn : n ≤ 10) (h : (nnR p 0 (nI n - 1)).1 = true) : (nnR p 0 (nI n - 1)).2 = p ∧ p.2.2.1 = 2 ∧ vn p < n ∧ p.2.2.2.1 = nI (vn p) := by
  have e : nI n - 1 = nI (n - 1) := pk_sub (a := n) (b := 1) h1
  rw [e] at h ⊢
  rcases vn_ok (a := 0) (b := n - 1) (p := p) (p' := (nnR p (nI 0) (nI (n - 1))).2) (by omega) (Prod.ext h rfl) with ⟨a1, a2, a3, a4, a5⟩ | a
  · exact ⟨a1, a2, by omega, a5⟩
  · exact absurd (by show 0 < 2147483648; decide) a
theorem s_readEdges (K : RB c m f) (ok : rdOk m p) (hF : FS F) (h1 : 1 ≤ F.1) {star : Bool} {most : Nat} (hmost : most < 100) : MSE m_X6_readEdges (d + 4) [.ref 1, .int (nI (if star = true then 1 else 0)), .int (nI most)] (hp (hR c p F q)) (some (.int (nI (if (reR f m star most p F).1 = true then 1 else 0)))) (hp (hR c (reR f m star most p F).2.1 (reR f m star most p F).2.2 q)) := by
  have ok2 := tkT_ok (f := f) ok
  refine e_X6_readEdges (b_X6_readEdges_0 (v10 := nI (if (nnR (tkT f m p) 0 (nI F.1 - 1)).1 = true then 1 else 0)) hR_1 (s_advance K ok.2) hR_1 rfl (hR_F hF).1 rfl hR_1 (s_needNumber tkT_t) (fun q1 => ?_) (fun q1 => b_X6_readEdges_21 ?_))
  · have hnn := tb_of q1
    obtain ⟨a1, a2, a3, a4⟩ := vn_in h1 hF.1 hnn
    have eR : reR f m star most p F = reU f m star most 0 (vn (tkT f m p)) (tkT f m (tkT f m p)) F := if_pos hnn
    rw [a1, eR]
    refine b_X6_readEdges_23 hR_1 rfl hR_1 (s_advance K ok2.2) ?_
    rw [a4]
    have key : ∀ j k a p F, k + j = most → a < F.1 → rdOk m p → p.2.2.1 < 10 → FS F → a_X6_readEdges_35 (d + 4) 0 0 1 (nI (if star = true then 1 else 0)) (nI most) (nI a) (nI k) (hp (hR c p F q)) (rI (nI (if (reU f m star j k a p F).1 = true then 1 else 0)) (hp (hR c (reU f m star j k a p F).2.1 (reU f m star j k a p F).2.2 q))) := by
      intro j
      induction j with
      | zero =>
        intro k a p F hk ha hok hp3 hF
        exact b_X6_readEdges_35 (fun _ => b_X6_readEdges_130 ⟨rfl, rfl⟩) (fun q => absurd (nI_le (show most ≤ k by omega) (by omega)) q)
      | succ j ih =>
        intro k a p F hk ha hok hp3 hF
        have hn := hF.1
        have at54 : (k = 0 ∨ p.2.2.1 = 2) → SW none m_X6_readEdges (d + 4) 0 0 54 [some (.ref 1), some (.int (nI (if star = true then 1 else 0))), some (.int (nI most)), some (.int (nI a)), some (.int (nI k)), none] [] (hp (hR c p F q)) (rI (nI (if (reU f m star (j + 1) k a p F).1 = true then 1 else 0)) (hp (hR c (reU f m star (j + 1) k a p F).2.1 (reU f m star (j + 1) k a p F).2.2 q))) := by
          intro hkp
          have e0 : ¬ (k ≠ 0 ∧ p.2.2.1 ≠ 2) := fun e => hkp.elim e.1 e.2
          have eU : reU f m star (j + 1) k a p F = if (nnR p 0 (nI F.1 - 1)).1 = true then (if ds F.2.1 F.1 a (vn p) = none then reU f m star j (k + 1) (if star = true then a else vn p) (tkT f m p) (F.1, jn F.2.1 a (vn p), F.2.2) else (false, flP p 3, F)) else (false, (nnR p 0 (nI F.1 - 1)).2, F) := if_neg e0
          refine b_X6_readEdges_54 (v8 := nI (if (nnR p 0 (nI F.1 - 1)).1 = true then 1 else 0)) hR_1 rfl (hR_F hF).1 rfl hR_1 (s_needNumber hp3) (fun q1 => ?_) (fun q1 => b_X6_readEdges_71 ?_)
          · have hnn := tb_of q1
            obtain ⟨a1, a2, a3, a4⟩ := vn_in (by omega) hF.1 hnn
            rw [if_pos hnn] at eU
            rw [a1]
            refine b_X6_readEdges_73 (x2 := nI (vn p)) hR_1 (congrArg (fun x => some (Value.int x)) a4) hR_1 rfl (hR_F hF).1 (s_steps (hR_F hF) (by omega) (by omega)) (fun q2 => ?_) (fun q2 => b_X6_readEdges_93 hR_1 s_fail (by decide) ?_)
            · have e1 : ds F.2.1 F.1 a (vn p) = none := (iO_none (fun k' q => by have := ds_lt q; omega)).mp q2
              have hne : a ≠ vn p := fun e => by
                rw [← e, ds_self (by omega)] at e1; cases e1
              have hF2 : FS (F.1, jn F.2.1 a (vn p), F.2.2) := ⟨hn, jn_lt hF.2 (by omega) (by omega)⟩
              rw [if_pos e1] at eU
              have ih2 := fun a' ha' => ih (k + 1) a' (tkT f m p) (F.1, jn F.2.1 a (vn p), F.2.2) (by omega) ha' (tkT_ok hok) tkT_t hF2
              have es : (hp (hR c p F q)).set 5 (100, ar 10 (fun i => nI (jn F.2.1 a (vn p) i))) = hp (hR c p (F.1, jn F.2.1 a (vn p), F.2.2) q) := hR_s5
              refine b_X6_readEdges_99 hR_1 rfl (hR_F hF).1 (s_join (hR_F hF) ha a3 hne) (fun q3 => ?_) (fun q3 => ?_)
              · rw [if_neg (show ¬ star = true by rw [h01.mp q3]; decide)] at eU
                rw [es, eU]
                refine b_X6_readEdges_117 (b_X6_readEdges_119 hR_1 (s_advance K hok.2) ?_)
                rw [nI_1]
                exact ih2 (vn p) a3
              · rw [if_pos (tb_of q3)] at eU
                rw [es, eU]
                refine b_X6_readEdges_113 (b_X6_readEdges_119 hR_1 (s_advance K hok.2) ?_)
                rw [nI_1]
                exact ih2 a ha
            · have e1 : ¬ ds F.2.1 F.1 a (vn p) = none := fun e => q2 (by rw [e]; rfl)
              rw [if_neg e1] at eU
              rw [eU]
              exact ⟨rfl, rfl⟩
          · have hnn := h01.mp q1
            rw [if_neg (show ¬ (nnR p 0 (nI F.1 - 1)).1 = true by rw [hnn]; decide)] at eU
            rw [eU]
            exact ⟨rfl, rfl⟩
        refine b_X6_readEdges_35 (fun q => absurd q (nI_ge (show k < most by omega) (by omega))) (fun _ => b_X6_readEdges_41 (fun q2 => at54 (Or.inl ((i_eq0 (by omega)).mp q2))) (fun q2 => b_X6_readEdges_46 hR_1 rfl (fun q3 => b_X6_readEdges_130 ?_) (fun q3 => at54 (Or.inr ((i_eq (b := 2) (by omega) (by decide)).mp q3)))))
        have e0 : k ≠ 0 ∧ p.2.2.1 ≠ 2 := ⟨fun e => q2 (by rw [e]; rfl), fun e => q3 (by show nI p.2.2.1 = 2; rw [e]; rfl)⟩
        rw [show reU f m star (j + 1) k a p F = (true, p, F) from if_pos e0]
        exact ⟨rfl, rfl⟩
    exact key most 0 (vn (tkT f m p)) (tkT f m (tkT f m p)) F (by omega) a3 (tkT_ok ok2) tkT_t hF
  · have hnn := h01.mp q1
    have eR : reR f m star most p F = (false, (nnR (tkT f m p) 0 (nI F.1 - 1)).2, F) := if_neg (by rw [hnn]; decide)
    rw [eR]
    exact ⟨rfl, rfl⟩
/-- the numbers of a code -/
def rcdU (f : Nat → Int32) (m n : Nat) : Nat → Nat → rd_p → (Nat → Nat) → Bool × rd_p × (Nat → Nat)
  | 0, _, p, q => (true, p, q)
  | j + 1, k, p, q => if (nnR p 0 (nI n - 1)).1 = true then rcdU f m n j (k + 1) (tkT f m p) (up1 q k (vn p)) else (false, (nnR p 0 (nI n - 1)).2, q)
def rcdR (f : Nat → Int32) (m : Nat) (p : rd_p) (F : rd_f) (q : Nat → Nat) : Bool × rd_p × rd_f × (Nat → Nat) := if ed F.2.1 F.1 = 0 then (if (rcdU f m F.1 (F.1 - 2) 0 (tkT f m p) q).1 = true then (true, (rcdU f m F.1 (F.1 - 2) 0 (tkT f m p) q).2.1, (F.1, plT (rcdU f m F.1 (F.1 - 2) 0 (tkT f m p) q).2.2 F.1, F.2.2), (rcdU f m F.1 (F.1 - 2) 0 (tkT f m p) q).2.2) else (false, (rcdU f m F.1 (F.1 - 2) 0 (tkT f m p) q).2.1, F, (rcdU f m F.1 (F.1 - 2) 0 (tkT f m p) q).2.2)) else (false, flP p 4, F, q)
theorem s_readCode (K : RB c m f) (ok : rdOk m p) (hF : FS F) (h1 : 1 ≤ F.1) : MSE m_X6_readCode (d + 4) [.ref 1] (hp (hR c p F q)) (some (.int (nI (if (rcdR f m p F q).1 = true then 1 else 0)))) (hp (hR c (rcdR f m p F q).2.1 (rcdR f m p F q).2.2.1 (rcdR f m p F q).2.2.2)) := by
  have hn := hF.1
  have hb := tsU_le (e := fun v => pc (F.2.1 v)) (fun i => pc_le (F.2.1 i)) F.1
  have hed : ed F.2.1 F.1 < 2147483648 := by unfold ed; omega
  refine e_X6_readCode (b_X6_readCode_0 hR_1 rfl (hR_F hF).1 (s_edges (hR_F hF)) (fun q1 => b_X6_readCode_16 hR_1 (s_advance K ok.2) ?_) (fun q1 => b_X6_readCode_10 hR_1 s_fail (by decide) ?_))
  · have e0 := (i_eq0 hed).mp q1
    have key : ∀ j k p q, k + j = F.1 - 2 → rdOk m p → p.2.2.1 < 10 → (∀ i, i < k → q i < F.1) → a_X6_readCode_22 (d + 4) 0 0 1 (nI k) (hp (hR c p F q)) (rI (nI (if (rcdU f m F.1 j k p q).1 = true then 1 else 0)) (hp (hR c (rcdU f m F.1 j k p q).2.1 (if (rcdU f m F.1 j k p q).1 = true then (F.1, plT (rcdU f m F.1 j k p q).2.2 F.1, F.2.2) else F) (rcdU f m F.1 j k p q).2.2))) := by
      intro j
      induction j with
      | zero =>
        intro k p q hk hok hp3 hq
        have hq2 : ∀ i, i < F.1 - 2 → q i < F.1 := fun i hi => hq i (by omega)
        obtain ⟨po, pu⟩ := pl_ok h1 hn hq2
        refine b_X6_readCode_22 hR_1 rfl (hR_F hF).1 rfl (s_codeLength (by omega)) (fun _ => b_X6_readCode_77 hR_1 rfl hR_1 rfl (hR_C K).1 (s_plant (hR_F hF) (hR_C K) (by decide) hq2 po h1 pu) ⟨rfl, hR_s5⟩) (fun q => absurd (nI_le (show F.1 - 2 ≤ k by omega) (by omega)) q)
      | succ j ih =>
        intro k p q hk hok hp3 hq
        have eU : rcdU f m F.1 (j + 1) k p q = if (nnR p 0 (nI F.1 - 1)).1 = true then rcdU f m F.1 j (k + 1) (tkT f m p) (up1 q k (vn p)) else (false, (nnR p 0 (nI F.1 - 1)).2, q) := rfl
        refine b_X6_readCode_22 hR_1 rfl (hR_F hF).1 rfl (s_codeLength (by omega)) (fun q => absurd q (nI_ge (show k < F.1 - 2 by omega) (by omega))) (fun _ => b_X6_readCode_36 (v8 := nI (if (nnR p 0 (nI F.1 - 1)).1 = true then 1 else 0)) hR_1 rfl (hR_F hF).1 rfl hR_1 (s_needNumber hp3) (fun q1 => ?_) (fun q1 => b_X6_readCode_53 ?_))
        · have hnn := tb_of q1
          obtain ⟨a1, a2, a3, a4⟩ := vn_in h1 hn hnn
          rw [if_pos hnn] at eU
          rw [eU, a1]
          have es : (hp (hR c p F q)).set 8 (100, ar 10 (fun i => nI (up1 q k (vn p) i))) = hp (hR c p F (up1 q k (vn p))) := hR_s8
          refine b_X6_readCode_55 (x5 := nI (vn p)) hR_1 rfl hR_1 (congrArg (fun x => some (Value.int x)) a4) (hR_C K).1 (s_setNumber (hR_C K) (show k < 10 by omega)) (by rw [es]; exact hR_1) (by rw [es]; exact s_advance K hok.2) ?_
          rw [nI_1]
          exact ih (k + 1) (tkT f m p) (up1 q k (vn p)) (by omega) (tkT_ok hok) tkT_t (fun i hi => by
            unfold up1; try dsimp only
            split
            · exact a3
            · exact hq i (by omega))
        · have hnn := h01.mp q1
          rw [if_neg (show ¬ (nnR p 0 (nI F.1 - 1)).1 = true by rw [hnn]; decide)] at eU
          rw [eU]
          exact ⟨rfl, rfl⟩
    have := key (F.1 - 2) 0 (tkT f m p) q (by omega) (tkT_ok ok) tkT_t (fun i hi => absurd hi (Nat.not_lt_zero i))
    cases hb : (rcdU f m F.1 (F.1 - 2) 0 (tkT f m p) q).1 with
    | true =>
      rw [hb] at this
      rw [show rcdR f m p F q = (true, (rcdU f m F.1 (F.1 - 2) 0 (tkT f m p) q).2.1, (F.1, plT (rcdU f m F.1 (F.1 - 2) 0 (tkT f m p) q).2.2 F.1, F.2.2), (rcdU f m F.1 (F.1 - 2) 0 (tkT f m p) q).2.2) by unfold rcdR; rw [if_pos e0, if_pos hb]]
      exact this
    | false =>
      rw [hb] at this
      rw [show rcdR f m p F q = (false, (rcdU f m F.1 (F.1 - 2) 0 (tkT f m p) q).2.1, F, (rcdU f m F.1 (F.1 - 2) 0 (tkT f m p) q).2.2) by unfold rcdR; rw [if_pos e0, if_neg (by rw [hb]; decide)]]
      exact this
  · have e0 : ¬ ed F.2.1 F.1 = 0 := fun e => q1 (by rw [e]; rfl)
    rw [show rcdR f m p F q = (false, flP p 4, F, q) from if_neg e0]
    exact ⟨rfl, rfl⟩
def rwR (f : Nat → Int32) (m : Nat) (p : rd_p) (F : rd_f) : Bool × rd_p × rd_f := if (nnR (tkT f m p) 0 (nI F.1 - 1)).1 = true then (if (nnR (tkT f m (tkT f m p)) 0 99).1 = true then (true, tkT f m (tkT f m (tkT f m p)), (F.1, F.2.1, up1 F.2.2 (vn (tkT f m p)) (vn (tkT f m (tkT f m p))))) else (false, (nnR (tkT f m (tkT f m p)) 0 99).2, F)) else (false, (nnR (tkT f m p) 0 (nI F.1 - 1)).2, F)
theorem s_readWeight (K : RB c m f) (ok : rdOk m p) (hF : FS F) (h1 : 1 ≤ F.1) : MSE m_X6_readWeight (d + 4) [.ref 1] (hp (hR c p F q)) (some (.int (nI (if (rwR f m p F).1 = true then 1 else 0)))) (hp (hR c (rwR f m p F).2.1 (rwR f m p F).2.2 q)) := by
  have ok2 := tkT_ok (f := f) ok
  have ok3 := tkT_ok (f := f) ok2
  refine e_X6_readWeight (b_X6_readWeight_0 (v10 := nI (if (nnR (tkT f m p) 0 (nI F.1 - 1)).1 = true then 1 else 0)) hR_1 (s_advance K ok.2) hR_1 rfl (hR_F hF).1 rfl hR_1 (s_needNumber tkT_t) (fun q1 => ?_) (fun q1 => b_X6_readWeight_21 ?_))
  · have hnn := tb_of q1
    obtain ⟨a1, a2, a3, a4⟩ := vn_in h1 hF.1 hnn
    have eU : rwR f m p F = if (nnR (tkT f m (tkT f m p)) 0 99).1 = true then (true, tkT f m (tkT f m (tkT f m p)), (F.1, F.2.1, up1 F.2.2 (vn (tkT f m p)) (vn (tkT f m (tkT f m p))))) else (false, (nnR (tkT f m (tkT f m p)) 0 99).2, F) := if_pos hnn
    rw [a1]
    refine b_X6_readWeight_23 (x2 := nI (vn (tkT f m p))) (v9 := nI (if (nnR (tkT f m (tkT f m p)) 0 99).1 = true then 1 else 0)) hR_1 (congrArg (fun x => some (Value.int x)) a4) hR_1 (s_advance K ok2.2) hR_1 (s_needNumber tkT_t) (fun q2 => ?_) (fun q2 => b_X6_readWeight_42 ?_)
    · have hn2 := tb_of q2
      rw [if_pos hn2] at eU
      rw [eU]
      obtain ⟨b1, b2, b3, b4, b5⟩ : (nnR (tkT f m (tkT f m p)) 0 99).2 = tkT f m (tkT f m p) ∧ (tkT f m (tkT f m p)).2.2.1 = 2 ∧ 0 ≤ vn (tkT f m (tkT f m p)) ∧ vn (tkT f m (tkT f m p)) ≤ 99 ∧ (tkT f m (tkT f m p)).2.2.2.1 = nI (vn (tkT f m (tkT f m p))) := by
        rcases vn_ok (a := 0) (b := 99) (p := tkT f m (tkT f m p)) (p' := (nnR (tkT f m (tkT f m p)) 0 99).2) (by decide) (Prod.ext hn2 rfl) with h | h
        · exact h
        · exact absurd (by show 0 < 2147483648; decide) h
      rw [b1]
      have es : (hp (hR c (tkT f m (tkT f m p)) F q)).set 6 (100, ar 10 (fun i => nI (up1 F.2.2 (vn (tkT f m p)) (vn (tkT f m (tkT f m p))) i))) = hp (hR c (tkT f m (tkT f m p)) (F.1, F.2.1, up1 F.2.2 (vn (tkT f m p)) (vn (tkT f m (tkT f m p)))) q) := hR_s6
      refine b_X6_readWeight_44 (x5 := nI (vn (tkT f m (tkT f m p)))) hR_1 rfl hR_1 (congrArg (fun x => some (Value.int x)) b5) (hR_F hF).1 (s_weigh (hR_F hF) a3) (by rw [es]; exact hR_1) (by rw [es]; exact s_advance K ok3.2) ⟨rfl, rfl⟩
    · rw [if_neg (show ¬ (nnR (tkT f m (tkT f m p)) 0 99).1 = true by rw [h01.mp q2]; decide)] at eU
      rw [eU]
      exact ⟨rfl, rfl⟩
  · rw [show rwR f m p F = (false, (nnR (tkT f m p) 0 (nI F.1 - 1)).2, F) from if_neg (by rw [h01.mp q1]; decide)]
    exact ⟨rfl, rfl⟩
def rsR (f : Nat → Int32) (m : Nat) (p : rd_p) (F : rd_f) (q : Nat → Nat) : Bool × rd_p × rd_f × (Nat → Nat) :=
  if wdB f 1 p = true then ((reR f m false 1 p F).1, (reR f m false 1 p F).2.1, (reR f m false 1 p F).2.2, q) else
  if wdB f 2 p = true then ((reR f m false 10 p F).1, (reR f m false 10 p F).2.1, (reR f m false 10 p F).2.2, q) else
  if wdB f 3 p = true then ((reR f m true 10 p F).1, (reR f m true 10 p F).2.1, (reR f m true 10 p F).2.2, q) else
  if wdB f 4 p = true then rcdR f m p F q else
  if wdB f 5 p = true then ((rwR f m p F).1, (rwR f m p F).2.1, (rwR f m p F).2.2, q) else (false, flP p 1, F, q)
theorem s_readStatement (K : RB c m f) (ok : rdOk m p) (h3 : p.2.2.1 < 10) (hF : FS F) (h1 : 1 ≤ F.1) : MSE m_X6_readStatement (d + 5) [.ref 1] (hp (hR c p F q)) (some (.int (nI (if (rsR f m p F q).1 = true then 1 else 0)))) (hp (hR c (rsR f m p F q).2.1 (rsR f m p F q).2.2.1 (rsR f m p F q).2.2.2)) := by
  have eR : rsR f m p F q = if wdB f 1 p = true then ((reR f m false 1 p F).1, (reR f m false 1 p F).2.1, (reR f m false 1 p F).2.2, q) else if wdB f 2 p = true then ((reR f m false 10 p F).1, (reR f m false 10 p F).2.1, (reR f m false 10 p F).2.2, q) else if wdB f 3 p = true then ((reR f m true 10 p F).1, (reR f m true 10 p F).2.1, (reR f m true 10 p F).2.2, q) else if wdB f 4 p = true then rcdR f m p F q else if wdB f 5 p = true then ((rwR f m p F).1, (rwR f m p F).2.1, (rwR f m p F).2.2, q) else (false, flP p 1, F, q) := rfl
  refine e_X6_readStatement (b_X6_readStatement_0 hR_1 (s_isWord K ok h3 (by decide)) (fun q1 => ?_) (fun q1 => b_X6_readStatement_9 hR_1 (s_readEdges (star := false) (most := 1) K ok hF h1 (by decide)) bl01 ?_))
  · rw [if_neg (show ¬ wdB f 1 p = true by rw [h01.mp q1]; decide)] at eR
    refine b_X6_readStatement_16 hR_1 (s_isWord K ok h3 (by decide)) (fun q2 => ?_) (fun q2 => b_X6_readStatement_25 hR_1 (s_readEdges (star := false) (most := 10) K ok hF h1 (by decide)) bl01 ?_)
    · rw [if_neg (show ¬ wdB f 2 p = true by rw [h01.mp q2]; decide)] at eR
      refine b_X6_readStatement_33 hR_1 (s_isWord K ok h3 (by decide)) (fun q3 => ?_) (fun q3 => b_X6_readStatement_42 hR_1 (s_readEdges (star := true) (most := 10) K ok hF h1 (by decide)) bl01 ?_)
      · rw [if_neg (show ¬ wdB f 3 p = true by rw [h01.mp q3]; decide)] at eR
        refine b_X6_readStatement_50 hR_1 (s_isWord K ok h3 (by decide)) (fun q4 => ?_) (fun q4 => b_X6_readStatement_59 hR_1 (s_readCode K ok hF h1) bl01 ?_)
        · rw [if_neg (show ¬ wdB f 4 p = true by rw [h01.mp q4]; decide)] at eR
          refine b_X6_readStatement_64 hR_1 (s_isWord K ok h3 (by decide)) (fun q5 => b_X6_readStatement_80 hR_1 s_fail (b_X6_readStatement_85 (by decide) ?_)) (fun q5 => b_X6_readStatement_73 hR_1 (s_readWeight K ok hF h1) (b_X6_readStatement_85 bl01 ?_))
          · rw [if_neg (show ¬ wdB f 5 p = true by rw [h01.mp q5]; decide)] at eR; rw [eR]; exact ⟨rfl, rfl⟩
          · rw [if_pos (tb_of q5)] at eR; rw [eR]; exact ⟨rfl, rfl⟩
        · rw [if_pos (tb_of q4)] at eR; rw [eR]; exact ⟨rfl, rfl⟩
      · rw [if_pos (tb_of q3)] at eR; rw [eR]; exact ⟨rfl, rfl⟩
    · rw [if_pos (tb_of q2)] at eR; rw [eR]; exact ⟨rfl, rfl⟩
  · rw [if_pos (tb_of q1)] at eR; rw [eR]; exact ⟨rfl, rfl⟩
end
