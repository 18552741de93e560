section
variable {d n m : Nat} {c : Nat → List Value} {f : Nat → Int32} {p : rd_p} {F : rd_f} {q : Nat → Nat}
/-- what the reader needs at each step -/
def RJ (m : Nat) (p : rd_p) (F : rd_f) : Prop := rdOk m p ∧ p.2.2.1 < 10 ∧ FS F ∧ 1 ≤ F.1
theorem RJ.fl (J : RJ m p F) {k : Int32} : RJ m (flP p k) F := J
theorem RJ.tk (J : RJ m p F) : RJ m (tkT f m p) F := ⟨tkT_ok J.1, tkT_t, J.2.2⟩
theorem RJ.nn (J : RJ m p F) {a b : Int32} : RJ m (nnR p a b).2 F := by
  unfold nnR
  split
  · split
    · exact J.fl
    · exact J
  · exact J.fl
theorem RJ.en (J : RJ m p F) : RJ m (enR f m p).2 F := by
  unfold enR
  split
  · exact J.tk
  · exact J.fl
theorem reU_J {star : Bool} : ∀ j k a p F, RJ m p F → a < F.1 → RJ m (reU f m star j k a p F).2.1 (reU f m star j k a p F).2.2
  | 0, _, _, _, _, J, _ => J
  | j + 1, k, a, p, F, J, ha => by
    have hn := J.2.2.1.1
    unfold reU
    split
    · exact J
    · split
      · rename_i hnn
        obtain ⟨a1, a2, a3, a4⟩ := vn_in J.2.2.2 hn hnn
        split
        · have hF2 : FS (F.1, jn F.2.1 a (vn p), F.2.2) := ⟨hn, jn_lt J.2.2.1.2 (by omega) (by omega)⟩
          refine reU_J j (k + 1) _ _ (F.1, jn F.2.1 a (vn p), F.2.2) ⟨tkT_ok J.1, tkT_t, hF2, J.2.2.2⟩ ?_
          show (if star = true then a else vn p) < F.1
          split
          · exact ha
          · exact a3
        · exact J.fl
      · exact J.nn
theorem reR_J {star : Bool} {most : Nat} (J : RJ m p F) : RJ m (reR f m star most p F).2.1 (reR f m star most p F).2.2 := by
  unfold reR
  split
  · rename_i hnn
    obtain ⟨a1, a2, a3, a4⟩ := vn_in J.2.2.2 J.2.2.1.1 hnn
    exact reU_J _ _ _ _ _ J.tk.tk a3
  · exact J.tk.nn
theorem rcdU_J : ∀ j k p q, k + j = F.1 - 2 → RJ m p F → (∀ i, i < k → q i < F.1) → RJ m (rcdU f m F.1 j k p q).2.1 F ∧ ((rcdU f m F.1 j k p q).1 = true → ∀ i, i < F.1 - 2 → (rcdU f m F.1 j k p q).2.2 i < F.1)
  | 0, k, p, q, hk, J, hq => ⟨J, fun _ i hi => hq i (by omega)⟩
  | j + 1, k, p, q, hk, J, hq => by
    unfold rcdU
    split
    · rename_i hnn
      obtain ⟨a1, a2, a3, a4⟩ := vn_in J.2.2.2 J.2.2.1.1 hnn
      exact rcdU_J j (k + 1) _ _ (by omega) J.tk (fun i hi => by
        unfold up1
        split
        · exact a3
        · exact hq i (by omega))
    · exact ⟨J.nn, fun h => by cases h⟩
theorem rcdR_J (J : RJ m p F) : RJ m (rcdR f m p F q).2.1 (rcdR f m p F q).2.2.1 := by
  have hn := J.2.2.1.1
  obtain ⟨h1, h2⟩ := rcdU_J (f := f) (F := F) (F.1 - 2) 0 (tkT f m p) q (by omega) J.tk (fun i hi => absurd hi (Nat.not_lt_zero i))
  unfold rcdR
  split
  · split
    · rename_i h3
      exact ⟨h1.1, h1.2.1, ⟨hn, fun i => Nat.lt_of_lt_of_le (plT_lt J.2.2.2 hn (h2 h3) i) (pow_le10 hn)⟩, J.2.2.2⟩
    · exact h1
  · exact J.fl
theorem rwR_J (J : RJ m p F) : RJ m (rwR f m p F).2.1 (rwR f m p F).2.2 := by
  unfold rwR
  split
  · split
    · exact J.tk.tk.tk
    · exact J.tk.tk.nn
  · exact J.tk.nn
theorem rsR_J (J : RJ m p F) : RJ m (rsR f m p F q).2.1 (rsR f m p F q).2.2.1 := by
  unfold rsR
  split
  · exact reR_J J
  · split
    · exact reR_J J
    · split
      · exact reR_J J
      · split
        · exact rcdR_J J
        · split
          · exact rwR_J J
          · exact J.fl
/-- the first statement -/
def rvR (f : Nat → Int32) (m : Nat) (p : rd_p) (F : rd_f) : Bool × rd_p × rd_f := if wdB f 0 p = true then (if (nnR (tkT f m p) 1 10).1 = true then ((enR f m (tkT f m (tkT f m p))).1, (enR f m (tkT f m (tkT f m p))).2, (vn (tkT f m p), (fun _ => 0), (fun _ => 1))) else (false, (nnR (tkT f m p) 1 10).2, F)) else (false, flP p 1, F)
theorem vn_in1 {p : rd_p} (h : (nnR p 1 10).1 = true) : (nnR p 1 10).2 = p ∧ p.2.2.1 = 2 ∧ 1 ≤ vn p ∧ vn p ≤ 10 ∧ p.2.2.2.1 = nI (vn p) := by
  rcases vn_ok (a := 1) (b := 10) (p := p) (p' := (nnR p 1 10).2) (by decide) (Prod.ext h rfl) with h | h
  · exact h
  · exact absurd (by decide : 1 < 2147483648) h
theorem rvR_J (J : RJ m p F) : RJ m (rvR f m p F).2.1 (rvR f m p F).2.2 := by
  unfold rvR
  split
  · split
    · rename_i h
      obtain ⟨a1, a2, a3, a4, a5⟩ := vn_in1 h
      have J2 : RJ m (tkT f m (tkT f m p)) (vn (tkT f m p), (fun _ => 0), (fun _ => 1)) := ⟨J.tk.tk.1, J.tk.tk.2.1, ⟨a4, fun _ => (by decide : 0 < 1024)⟩, a3⟩
      exact J2.en
    · exact J.tk.nn
  · exact J.fl
theorem s_readVertices (K : RB c m f) (J : RJ m p F) : MSE m_X6_readVertices (d + 5) [.ref 1] (hp (hR c p F q)) (some (.int (nI (if (rvR f m p F).1 = true then 1 else 0)))) (hp (hR c (rvR f m p F).2.1 (rvR f m p F).2.2 q)) := by
  refine e_X6_readVertices (b_X6_readVertices_0 hR_1 (s_isWord K J.1 J.2.1 (by decide)) (fun q1 => b_X6_readVertices_15 (v6 := nI (if (nnR (tkT f m p) 1 10).1 = true then 1 else 0)) hR_1 (s_advance K J.1.2) hR_1 (s_needNumber J.tk.2.1) (fun q2 => ?_) (fun q2 => b_X6_readVertices_29 ?_)) (fun q1 => b_X6_readVertices_9 hR_1 s_fail (by decide) ?_))
  · have hnn := tb_of q2
    obtain ⟨a1, a2, a3, a4, a5⟩ := vn_in1 hnn
    have eR : rvR f m p F = ((enR f m (tkT f m (tkT f m p))).1, (enR f m (tkT f m (tkT f m p))).2, (vn (tkT f m p), (fun _ => 0), (fun _ => 1))) := by
      unfold rvR
      rw [if_pos (tb_of q1), if_pos hnn]
    rw [eR, a1]
    have J2 : RJ m (tkT f m (tkT f m p)) (vn (tkT f m p), (fun _ => 0), (fun _ => 1)) := ⟨J.tk.tk.1, J.tk.tk.2.1, ⟨a4, fun _ => (by decide : 0 < 1024)⟩, a3⟩
    have m1 := s_clear (d := d + 2) (hR_F (c := c) (p := tkT f m p) (q := q) J.2.2.1) a3 a4
    rw [hR_s4, hR_s5 (g' := fun _ => 0), hR_s6 (w' := fun _ => 1)] at m1
    exact b_X6_readVertices_31 (x4 := nI (vn (tkT f m p))) hR_1 rfl hR_1 (congrArg (fun x => some (Value.int x)) a5) (hR_F J.2.2.1).1 m1 hR_1 (s_advance K J.tk.1.2) hR_1 (s_endStatement K J2.1 J2.2.1) bl01 ⟨rfl, rfl⟩
  · rw [show rvR f m p F = (false, (nnR (tkT f m p) 1 10).2, F) by unfold rvR; rw [if_pos (tb_of q1), if_neg (by rw [h01.mp q2]; decide)]]
    exact ⟨rfl, rfl⟩
  · rw [show rvR f m p F = (false, flP p 1, F) by unfold rvR; rw [if_neg (by rw [h01.mp q1]; decide)]]
    exact ⟨rfl, rfl⟩
/-- all statements -/
def rtU (f : Nat → Int32) (m : Nat) : Nat → Bool → rd_p → rd_f → (Nat → Nat) → rd_p × rd_f × (Nat → Nat)
  | 0, _, p, F, q => (p, F, q)
  | j + 1, b, p, F, q => if b = true then (if p.2.2.1 = 0 then (p, F, q) else if (rsR f m p F q).1 = true then rtU f m j (enR f m (rsR f m p F q).2.1).1 (enR f m (rsR f m p F q).2.1).2 (rsR f m p F q).2.2.1 (rsR f m p F q).2.2.2 else rtU f m j false (rsR f m p F q).2.1 (rsR f m p F q).2.2.1 (rsR f m p F q).2.2.2) else (p, F, q)
def rd0 (p : rd_p) : rd_p := (p.1, 0, p.2.2.1, p.2.2.2.1, 0)
def rtR (f : Nat → Int32) (m : Nat) (p : rd_p) (F : rd_f) (q : Nat → Nat) : rd_p × rd_f × (Nat → Nat) := rtU f m 400 (rvR f m (tkT f m (rd0 p)) F).1 (rvR f m (tkT f m (rd0 p)) F).2.1 (rvR f m (tkT f m (rd0 p)) F).2.2 q
theorem rtU_J : ∀ j b p F q, RJ m p F → RJ m (rtU f m j b p F q).1 (rtU f m j b p F q).2.1
  | 0, _, _, _, _, J => J
  | j + 1, b, p, F, q, J => by
    unfold rtU
    split
    · split
      · exact J
      · split
        · exact rtU_J j _ _ _ _ (rsR_J J).en
        · exact rtU_J j _ _ _ _ (rsR_J J)
    · exact J
theorem rd0_J (hF : FS F) (h1 : 1 ≤ F.1) : RJ m (tkT f m (rd0 p)) F := ⟨tkT_le (Nat.zero_le m), tkT_t, hF, h1⟩
theorem s_readText (K : RB c m f) (hF : FS F) (h1 : 1 ≤ F.1) : MSE m_X6_readText (d + 6) [.ref 1] (hp (hR c p F q)) (some (.int (rtR f m p F q).1.2.2.2.2)) (hp (hR c (rtR f m p F q).1 (rtR f m p F q).2.1 (rtR f m p F q).2.2)) := by
  obtain ⟨s, e, t, v, r⟩ := p
  have e0 : (hp (hR c (s, e, t, v, r) F q)).set 1 (6, (rdL (s, e, t, v, r)).set 4 (.int 0)) = hp (hR c (s, 0, t, v, r) F q) := hR_s1 (p' := (s, 0, t, v, r))
  have e1 : (hp (hR c (s, 0, t, v, r) F q)).set 1 (6, (rdL (s, 0, t, v, r)).set 7 (.int 0)) = hp (hR c (s, 0, t, v, 0) F q) := hR_s1 (p' := (s, 0, t, v, 0))
  have J := rd0_J (m := m) (f := f) (p := (s, e, t, v, r)) hF h1
  refine e_X6_readText (b_X6_readText_0 hR_1 (by show 4 < 8; decide) (by rw [e0]; exact hR_1) (by show 7 < 8; decide) (by rw [e0, e1]; exact hR_1) (by rw [e0, e1]; exact s_advance K (Nat.zero_le m)) hR_1 (s_readVertices K J) ?_)
  have key : ∀ j k b p F q, k + j = 400 → RJ m p F → a_X6_readText_21 (d + 6) 0 0 1 (nI (if b = true then 1 else 0)) (nI k) (hp (hR c p F q)) (rI (rtU f m j b p F q).1.2.2.2.2 (hp (hR c (rtU f m j b p F q).1 (rtU f m j b p F q).2.1 (rtU f m j b p F q).2.2))) := by
    intro j
    induction j with
    | zero =>
      intro k b p F q hk J
      have : k = 400 := by omega
      subst this
      exact b_X6_readText_21 (fun _ => b_X6_readText_65 hR_1 rfl ⟨rfl, rfl⟩) (fun q => absurd (nI_le (a := 400) (b := 400) (Nat.le_refl _) (by decide)) q)
    | succ j ih =>
      intro k b p F q hk J
      have J2 := rsR_J (f := f) (q := q) J
      refine b_X6_readText_21 (fun q => absurd q (nI_ge (a := k) (b := 400) (by omega) (by decide))) (fun _ => b_X6_readText_28 (fun q1 => b_X6_readText_65 hR_1 rfl ?_) (fun q1 => b_X6_readText_32 hR_1 rfl (fun q2 => b_X6_readText_65 hR_1 rfl ?_) (fun q2 => b_X6_readText_39 hR_1 (s_readStatement K J.1 J.2.1 J.2.2.1 J.2.2.2) (fun q3 => b_X6_readText_57 (b_X6_readText_58 ?_)) (fun q3 => b_X6_readText_46 hR_1 (s_endStatement K J2.1 J2.2.1) (fun q4 => b_X6_readText_57 (b_X6_readText_58 ?_)) (fun q4 => b_X6_readText_53 (b_X6_readText_58 ?_))))))
      · rw [show rtU f m (j + 1) b p F q = (p, F, q) from if_neg (by rw [h01.mp q1]; decide)]
        exact ⟨rfl, rfl⟩
      · have q2 : nI p.2.2.1 = 0 := q2
        have e2 := (i_eq0 (by have := J.2.1; omega)).mp q2
        rw [show rtU f m (j + 1) b p F q = (p, F, q) by unfold rtU; rw [if_pos (tb_of q1), if_pos e2]]
        exact ⟨rfl, rfl⟩
      · have e2 : ¬ p.2.2.1 = 0 := fun e => q2 (by show nI p.2.2.1 = 0; rw [e]; rfl)
        rw [show rtU f m (j + 1) b p F q = rtU f m j false (rsR f m p F q).2.1 (rsR f m p F q).2.2.1 (rsR f m p F q).2.2.2 by
          show (if b = true then _ else _) = _
          rw [if_pos (tb_of q1), if_neg e2, if_neg (by rw [h01.mp q3]; decide)]]
        rw [nI_1]
        exact ih (k + 1) false _ _ _ (by omega) J2
      · have e2 : ¬ p.2.2.1 = 0 := fun e => q2 (by show nI p.2.2.1 = 0; rw [e]; rfl)
        have e3 := h01.mp q4
        rw [show rtU f m (j + 1) b p F q = rtU f m j false (enR f m (rsR f m p F q).2.1).2 (rsR f m p F q).2.2.1 (rsR f m p F q).2.2.2 by
          show (if b = true then _ else _) = _
          rw [if_pos (tb_of q1), if_neg e2, if_pos (tb_of q3), e3]]
        rw [nI_1]
        exact ih (k + 1) false _ _ _ (by omega) J2.en
      · have e2 : ¬ p.2.2.1 = 0 := fun e => q2 (by show nI p.2.2.1 = 0; rw [e]; rfl)
        have e3 := tb_of q4
        rw [show rtU f m (j + 1) b p F q = rtU f m j true (enR f m (rsR f m p F q).2.1).2 (rsR f m p F q).2.2.1 (rsR f m p F q).2.2.2 by
          show (if b = true then _ else _) = _
          rw [if_pos (tb_of q1), if_neg e2, if_pos (tb_of q3), e3]]
        rw [nI_1]
        exact ih (k + 1) true _ _ _ (by omega) J2.en
  exact key 400 0 _ _ _ _ (by omega) (rvR_J J)
end
/-- the reader as it lies -/
def RD (c : Nat → List Value) (p : rd_p) (F : rd_f) (q : Nat → Nat) : Prop := c 1 = rdL p ∧ c 4 = [.ref 5, .ref 6, .int (nI F.1)] ∧ c 5 = ar 10 (fun i => nI (F.2.1 i)) ∧ c 6 = ar 10 (fun i => nI (F.2.2 i)) ∧ c 8 = ar 10 (fun i => nI (q i))
theorem up1_id {α : Type} {c : Nat → α} {i : Nat} {x : α} (h : c i = x) : up1 c i x = c := by
  funext j
  unfold up1
  by_cases e : j = i
  · rw [if_pos e, e]; exact h.symm
  · rw [if_neg e]
theorem RD.same {c : Nat → List Value} {p : rd_p} {F : rd_f} {q : Nat → Nat} (R : RD c p F q) : hR c p F q = c := by
  obtain ⟨r1, r2, r3, r4, r5⟩ := R
  unfold hR
  rw [up1_id r1, up1_id r2, up1_id r3, up1_id r4, up1_id r5]
section
variable {d n m nx ch kp : Nat} {c : Nat → List Value} {g w : Nat → Nat} {f : Nat → Int32} {p : rd_p} {F : rd_f} {q : Nat → Nat} {a : Nat → Int32}
theorem hR_ne {i : Nat} (h : i ≠ 1 ∧ i ≠ 4 ∧ i ≠ 5 ∧ i ≠ 6 ∧ i ≠ 8) : hR c p F q i = c i := by
  unfold hR
  rw [up1_ne _ _ h.2.2.2.2, up1_ne _ _ h.2.2.2.1, up1_ne _ _ h.2.2.1, up1_ne _ _ h.2.1, up1_ne _ _ h.1]
theorem NB.rd (N : NB c n g w) : NB (hR c p F q) n g w :=
  ⟨by rw [hR_ne (by decide)]; exact N.1, by rw [hR_ne (by decide)]; exact N.2.1, by rw [hR_ne (by decide)]; exact N.2.2.1, by rw [hR_ne (by decide)]; exact N.2.2.2.1, N.2.2.2.2⟩
/-- behind readText: the input is empty -/
def cL (c : Nat → List Value) (f : Nat → Int32) (m : Nat) (p : rd_p) (F : rd_f) (q : Nat → Nat) : Nat → List Value := up1 (hR c (rtR f m p F q).1 (rtR f m p F q).2.1 (rtR f m p F q).2.2) 2 [.ref 3, .int (nI 0)]
/-- .. with the forest that was read -/
def cM (c : Nat → List Value) (F' : rd_f) (nx : Nat) : Nat → List Value := up1 (up1 (up1 (up1 (up1 c 11 [.ref 12, .ref 13, .int (nI F'.1)]) 12 (ar 10 (fun i => nI (F'.2.1 i)))) 13 (ar 10 (fun i => nI (F'.2.2 i)))) 55 (paL nx 0 0)) 69 (ar 10 (fun _ => 0))
theorem t_loadPre (N : NB c n g w) (K : RB c m f) (R : RD c p F q) (hF : FS F) (h1 : 1 ≤ F.1) : MSE m_X6_readText (d + 6) [.ref 1] (hp c) (some (.int (rtR f m p F q).1.2.2.2.2)) (hp (hR c (rtR f m p F q).1 (rtR f m p F q).2.1 (rtR f m p F q).2.2)) := by
  have := s_readText (d := d) (p := p) (q := q) K hF h1
  rw [R.same] at this
  exact this
theorem hR_RB (K : RB c m f) : RB (hR c p F q) m f := ⟨(hR_ne (by decide)).trans K.1, (hR_ne (by decide)).trans K.2.1, (hR_ne (by decide)).trans K.2.2.1, K.2.2.2⟩
theorem t_load0 (N : NB c n g w) (K : RB c m f) (R : RD c p F q) (hF : FS F) (h1 : 1 ≤ F.1) (he : ¬ (rtR f m p F q).1.2.2.2.2 = 0) : MSE m_X9_load (d + 7) [.ref 0] (hp c) (some (.int (-(rtR f m p F q).1.2.2.2.2))) (hp (cL c f m p F q)) := by
  have m1 := t_loadPre (d := d) N K R hF h1
  have N2 := N.rd (p := (rtR f m p F q).1) (F := (rtR f m p F q).2.1) (q := (rtR f m p F q).2.2)
  have m2 := s_shorten (d := d + 6) (hR_B (p := (rtR f m p F q).1) (F := (rtR f m p F q).2.1) (q := (rtR f m p F q).2.2) K) (Nat.zero_le m)
  rw [hp_set (by decide) (by decide)] at m2
  exact e_X9_load (b_X9_load_0 N.O rfl (hp_is 1 6 R.1 (by decide) (by decide)) m1 N2.O rfl hR_1 rfl (hR_B K).1 m2 (fun q => absurd q he) (fun _ => b_X9_load_24 ⟨rfl, rfl⟩))
theorem t_load (N : NB c n g w) (K : RB c m f) (R : RD c p F q) (hF : FS F) (h1 : 1 ≤ F.1) (he : (rtR f m p F q).1.2.2.2.2 = 0) (h5 : c 55 = paL nx ch kp) (A : AB c a) (hg : ∀ i, (rtR f m p F q).2.1.2.1 i < 2 ^ (rtR f m p F q).2.1.1) : MSE m_X9_load (d + 7) [.ref 0] (hp c) (some (.int (nI (ed (rtR f m p F q).2.1.2.1 (rtR f m p F q).2.1.1)))) (hp (cM (cL c f m p F q) (rtR f m p F q).2.1 nx)) := by
  have m1 := t_loadPre (d := d) N K R hF h1
  have J := rtU_J (f := f) (m := m) 400 (rvR f m (tkT f m (rd0 p)) F).1 (rvR f m (tkT f m (rd0 p)) F).2.1 (rvR f m (tkT f m (rd0 p)) F).2.2 q (rvR_J (rd0_J hF h1))
  have J : RJ m (rtR f m p F q).1 (rtR f m p F q).2.1 := J
  obtain ⟨p2, hp2⟩ : ∃ x, x = (rtR f m p F q).1 := ⟨_, rfl⟩
  obtain ⟨F2, hF2⟩ : ∃ x, x = (rtR f m p F q).2.1 := ⟨_, rfl⟩
  obtain ⟨q2, hq2⟩ : ∃ x, x = (rtR f m p F q).2.2 := ⟨_, rfl⟩
  unfold cL
  rw [← hp2] at he J
  rw [← hF2] at J hg
  rw [← hp2, ← hF2, ← hq2] at m1
  rw [← hp2, ← hF2, ← hq2]
  have N2 := N.rd (p := p2) (F := F2) (q := q2)
  have m2 := s_shorten (d := d + 6) (hR_B (p := p2) (F := F2) (q := q2) K) (Nat.zero_le m)
  rw [hp_set (by decide) (by decide)] at m2
  rw [he] at m1
  have N3 := N2.off (i := 2) (v := [.ref 3, .int (nI 0)]) (by decide)
  have FF : FO (hp (up1 (hR c p2 F2 q2) 2 [.ref 3, .int (nI 0)])) 4 5 6 F2.1 F2.2.1 F2.2.2 := hp_fo 4 5 6 rfl rfl rfl (by decide) J.2.2.1.1 J.2.2.1.2 (by decide) (by decide) (by decide)
  have m3 := s_copy (d := d + 6) N3.F FF (by decide) (by decide) (by decide) (by decide) (by decide)
  rw [hp_set (by decide) (by decide), hp_set (by decide) (by decide), hp_set (by decide) (by decide)] at m3
  obtain ⟨c3, hc3⟩ : ∃ x, x = up1 (up1 (up1 (up1 (hR c p2 F2 q2) 2 [.ref 3, .int (nI 0)]) 11 [.ref 12, .ref 13, .int (nI F2.1)]) 12 (ar 10 (fun i => nI (F2.2.1 i)))) 13 (ar 10 (fun i => nI (F2.2.2 i))) := ⟨_, rfl⟩
  rw [← hc3] at m3
  have cne : ∀ i, i ≠ 1 ∧ i ≠ 2 ∧ i ≠ 4 ∧ i ≠ 5 ∧ i ≠ 6 ∧ i ≠ 8 ∧ i ≠ 11 ∧ i ≠ 12 ∧ i ≠ 13 → c3 i = c i := fun i h => by
    rw [hc3, up1_ne _ _ h.2.2.2.2.2.2.2.2, up1_ne _ _ h.2.2.2.2.2.2.2.1, up1_ne _ _ h.2.2.2.2.2.2.1, up1_ne _ _ h.2.1]
    exact hR_ne ⟨h.1, h.2.2.1, h.2.2.2.1, h.2.2.2.2.1, h.2.2.2.2.2.1⟩
  have N4 : NB c3 F2.1 F2.2.1 F2.2.2 := ⟨(cne 0 (by decide)).trans N.1, by rw [hc3]; rfl, by rw [hc3]; rfl, by rw [hc3]; rfl, J.2.2.2, J.2.2.1.1, hg⟩
  have h55 : c3 55 = paL nx ch kp := (cne 55 (by decide)).trans h5
  have N5 := N4.off (i := 55) (v := paL nx 0 0) (by decide)
  have A5 : AB (up1 c3 55 (paL nx 0 0)) a := (up1_ne _ _ (by decide)).trans ((cne 69 (by decide)).trans A)
  have m5 := s_fill (d := d + 6) (x := 0) A5.H (by decide)
  rw [hp_set (by decide) (by decide)] at m5
  have N6 := N5.off (i := 69) (v := ar 10 (fun _ => (0 : Int32))) (by decide)
  have e6 : cM (up1 (hR c p2 F2 q2) 2 [.ref 3, .int (nI 0)]) F2 nx = up1 (up1 c3 55 (paL nx 0 0)) 69 (ar 10 (fun _ => (0 : Int32))) := by rw [hc3]; rfl
  rw [e6]
  exact e_X9_load (b_X9_load_0 N.O rfl (hp_is 1 6 R.1 (by decide) (by decide)) m1 N2.O rfl hR_1 rfl (hR_B K).1 m2 (fun _ => b_X9_load_27 N3.O rfl N3.O rfl (hp_is 1 6 (v := rdL p2) rfl (by decide) (by decide)) rfl N3.F.1 m3 N4.O rfl (hp_is 55 5 h55 (by decide) (by decide)) (s_pforget h55) N5.O rfl m5 N6.O rfl N6.F.1 (s_edges N6.F) ⟨rfl, rfl⟩) (fun q => absurd rfl q))
end
