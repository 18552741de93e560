section
variable {d m n : Nat} {c c' c'' : Nat → List Value} {f : Nat → Int32} {z : Nat → Int32} {p p0 : rd_p} {F : rd_f} {x y : Int32} {h : ab_H} {g : Nat → Nat} {q : Nat → Nat}
/-! statements, the whole text -/
theorem wq_up {w : Nat → Nat} {v b : Nat} (hv : v < n) : up1 (wq n w) v b = wq n (up1 w v b) := funext fun i => by
  unfold wq
  by_cases e : i = v
  · rw [e, up1_same, up1_same, if_pos hv]
  · rw [up1_ne _ _ e, up1_ne _ _ e]
theorem LQ.rW (L : LQ c f m p) (G : LF c F) (S : SC c) : ∃ c', MSE m_X10_readsWeight (d + 4) [.ref 70] (hp c) (some (.int (nI (if (rwR f m p F).1 = true then 1 else 0)))) (hp c') ∧ RR c c' f m (rwR f m p F) := by
  obtain ⟨z, hz⟩ := L.M
  obtain ⟨c1, m1, L1, K1⟩ := L.go (d := d + 1)
  have G1 := G.fk K1 (by decide) (by decide)
  have S1 := S.fk K1
  have W1 := (K1.mono K47).W
  obtain ⟨z1, hz1⟩ := L1.M
  obtain ⟨c2, m2, K2, t2, b2⟩ := L1.reads (d := d) (a := 0) (b := nI F.1 - 1)
  have S2 := S1.fk K2
  have hn := G.2.2.2.1
  unfold rwR
  by_cases hb : (nnR (tkT f m p) 0 (nI F.1 - 1)).1 = true
  · rw [if_pos hb] at m2 ⊢
    obtain ⟨L2, z3, hz3, z21⟩ := t2 hb
    have G2 := G1.fk K2 (by decide) (by decide)
    obtain ⟨v1, v2, v3, v4⟩ := vn_in G.2.2.1 G.2.2.2.1 hb
    have f21 : (moL z3)[21]? = some (.int (nI (vn (tkT f m p)))) := by rw [← v4, ← z21]; rfl
    obtain ⟨c4, m4, K4', t4, b4⟩ := L2.reads (d := d) (a := 0) (b := 99)
    have S4 := S2.fk K4'
    by_cases hb2 : (nnR (tkT f m (tkT f m p)) 0 99).1 = true
    · rw [if_pos hb2] at m4 ⊢
      obtain ⟨L4, z5, hz5, z521⟩ := t4 hb2
      have G4 := G2.fk K4' (by decide) (by decide)
      obtain ⟨w1, w2, w3, w4, w5⟩ : (nnR (tkT f m (tkT f m p)) 0 99).2 = tkT f m (tkT f m p) ∧ (tkT f m (tkT f m p)).2.2.1 = 2 ∧ 0 ≤ vn (tkT f m (tkT f m p)) ∧ vn (tkT f m (tkT f m p)) ≤ 99 ∧ (tkT f m (tkT f m p)).2.2.2.1 = nI (vn (tkT f m (tkT f m p))) := by
        rcases vn_ok (a := 0) (b := 99) (p := tkT f m (tkT f m p)) (p' := (nnR (tkT f m (tkT f m p)) 0 99).2) (by decide) (Prod.ext hb2 rfl) with h | h
        · exact h
        · exact absurd (by decide : 0 < 2147483648) h
      have g21 : (moL z5)[21]? = some (.int (nI (vn (tkT f m (tkT f m p))))) := by rw [← w5, ← z521]; rfl
      obtain ⟨v, ev⟩ : ∃ v, v = vn (tkT f m p) := ⟨_, rfl⟩
      obtain ⟨b, eb⟩ : ∃ b, b = vn (tkT f m (tkT f m p)) := ⟨_, rfl⟩
      rw [← ev] at v3 f21 ⊢
      rw [← eb] at w4 g21 ⊢
      have e10 : (10 : Int32) + nI v = nI (10 + v) := nI_add 10 v
      have eR : (hp c4).set 72 (100, (ar 20 (fun i => nI (sv F.2.1 (wq F.1 F.2.2) i))).set (10 + nI v : Int32).toNatClampNeg (.int (nI b))) = hp (up1 c4 72 (ar 20 (fun i => nI (sv F.2.1 (wq F.1 (up1 F.2.2 v b)) i)))) := by
        rw [e10, cl_nI (by omega), ar_upN, sv_upw, wq_up v3, hp_set (by decide) (by decide)]
      refine ⟨up1 c4 72 (ar 20 (fun i => nI (sv F.2.1 (wq F.1 (up1 F.2.2 v b)) i))), e_X10_readsWeight (b_X10_readsWeight_0 (mo_H hz) m1 (mo_H hz1) (G1.f10 hz1) (mo_H hz1) m2 (fun _ => b_X10_readsWeight_20 (mo_H hz3) f21 (mo_H hz3) m4 (fun _ => b_X10_readsWeight_37 (mo_H hz5) rfl (mo_H hz5) g21 (hp_is 72 100 G4.2.1 (by decide) (by decide)) (by rw [e10]; exact nI_pos (by omega)) (by rw [e10]; exact ln20 (by omega)) ⟨rfl, eR⟩) (fun q => absurd q (by decide))) (fun q => absurd q (by decide))), ((W1.tr K2.W).tr K4'.W).tr (RK8.up (by decide)), S4.r72, fun _ => ⟨L4.off (by decide), G4.row (w := up1 F.2.2 v b) G.2.2.2.2.1 (fun i => ?_)⟩, fun h => (by cases h)⟩
      by_cases e : i = v
      · rw [e, up1_same]; exact w4
      · rw [up1_ne _ _ e]; exact G.2.2.2.2.2 i
    · rw [if_neg hb2] at m4 ⊢
      exact ⟨c4, e_X10_readsWeight (b_X10_readsWeight_0 (mo_H hz) m1 (mo_H hz1) (G1.f10 hz1) (mo_H hz1) m2 (fun _ => b_X10_readsWeight_20 (mo_H hz3) f21 (mo_H hz3) m4 (fun q => absurd rfl q) (fun _ => b_X10_readsWeight_35 ⟨rfl, rfl⟩)) (fun q => absurd q (by decide))), (W1.tr K2.W).tr K4'.W, S4, fun h => (by cases h), fun _ => b4 (Bool.eq_false_iff.mpr hb2)⟩
  · rw [if_neg hb] at m2 ⊢
    exact ⟨c2, e_X10_readsWeight (b_X10_readsWeight_0 (mo_H hz) m1 (mo_H hz1) (G1.f10 hz1) (mo_H hz1) m2 (fun q => absurd rfl q) (fun _ => b_X10_readsWeight_18 ⟨rfl, rfl⟩)), W1.tr K2.W, S2, fun h => (by cases h), fun _ => b2 (Bool.eq_false_iff.mpr hb)⟩
theorem wd_no {t : Nat} (h : ¬ wdB f t p = true) : nI (if wdB f t p = true then 1 else 0) = 0 := by rw [if_neg h]; rfl
theorem wd_yes {t : Nat} (h : wdB f t p = true) : ¬ nI (if wdB f t p = true then 1 else 0) = 0 := by rw [if_pos h]; decide
theorem LQ.rS (L : LQ c f m p) (G : LF c F) (S : SC c) : ∃ c' b, MSE m_X10_readsStatement (d + 5) [.ref 70] (hp c) (some (.int (nI (if b = true then 1 else 0)))) (hp c') ∧ RS c c' f m b ((rsR f m p F q).1, (rsR f m p F q).2.1, (rsR f m p F q).2.2.1) := by
  obtain ⟨z, hz⟩ := L.M
  have i1 := L.is (d := d) (t := 1) (by decide)
  have i2 := L.is (d := d) (t := 2) (by decide)
  have i3 := L.is (d := d) (t := 3) (by decide)
  have i4 := L.is (d := d) (t := 4) (by decide)
  have i5 := L.is (d := d) (t := 5) (by decide)
  unfold rsR
  by_cases h1 : wdB f 1 p = true
  · rw [if_pos h1]
    obtain ⟨c1, m1, r1⟩ := L.rEs (d := d) (star := false) (most := 1) (Or.inl ⟨rfl, rfl⟩) G S
    exact ⟨c1, _, e_X10_readsStatement (b_X10_readsStatement_0 (mo_H hz) i1 (fun q => absurd q (wd_yes h1)) (fun _ => b_X10_readsStatement_9 (mo_H hz) m1 bl01 ⟨rfl, rfl⟩)), r1.S⟩
  · rw [if_neg h1]
    by_cases h2 : wdB f 2 p = true
    · rw [if_pos h2]
      obtain ⟨c1, m1, r1⟩ := L.rEs (d := d) (star := false) (most := 10) (Or.inr rfl) G S
      exact ⟨c1, _, e_X10_readsStatement (b_X10_readsStatement_0 (mo_H hz) i1 (fun _ => b_X10_readsStatement_16 (mo_H hz) i2 (fun q => absurd q (wd_yes h2)) (fun _ => b_X10_readsStatement_25 (mo_H hz) m1 bl01 ⟨rfl, rfl⟩)) (fun q => absurd (wd_no h1) q)), r1.S⟩
    · rw [if_neg h2]
      by_cases h3 : wdB f 3 p = true
      · rw [if_pos h3]
        obtain ⟨c1, m1, r1⟩ := L.rEs (d := d) (star := true) (most := 10) (Or.inr rfl) G S
        exact ⟨c1, _, e_X10_readsStatement (b_X10_readsStatement_0 (mo_H hz) i1 (fun _ => b_X10_readsStatement_16 (mo_H hz) i2 (fun _ => b_X10_readsStatement_32 (mo_H hz) i3 (fun q => absurd q (wd_yes h3)) (fun _ => b_X10_readsStatement_41 (mo_H hz) m1 bl01 ⟨rfl, rfl⟩)) (fun q => absurd (wd_no h2) q)) (fun q => absurd (wd_no h1) q)), r1.S⟩
      · rw [if_neg h3]
        by_cases h4 : wdB f 4 p = true
        · rw [if_pos h4]
          obtain ⟨c1, b, m1, r1⟩ := L.rC (d := d) (q := q) G S
          exact ⟨c1, b, e_X10_readsStatement (b_X10_readsStatement_0 (mo_H hz) i1 (fun _ => b_X10_readsStatement_16 (mo_H hz) i2 (fun _ => b_X10_readsStatement_32 (mo_H hz) i3 (fun _ => b_X10_readsStatement_48 (mo_H hz) i4 (fun q => absurd q (wd_yes h4)) (fun _ => b_X10_readsStatement_57 (mo_H hz) m1 bl01 ⟨rfl, rfl⟩)) (fun q => absurd (wd_no h3) q)) (fun q => absurd (wd_no h2) q)) (fun q => absurd (wd_no h1) q)), r1⟩
        · rw [if_neg h4]
          by_cases h5 : wdB f 5 p = true
          · rw [if_pos h5]
            obtain ⟨c1, m1, r1⟩ := L.rW (d := d) G S
            exact ⟨c1, _, e_X10_readsStatement (b_X10_readsStatement_0 (mo_H hz) i1 (fun _ => b_X10_readsStatement_16 (mo_H hz) i2 (fun _ => b_X10_readsStatement_32 (mo_H hz) i3 (fun _ => b_X10_readsStatement_48 (mo_H hz) i4 (fun _ => b_X10_readsStatement_62 (mo_H hz) i5 (fun q => absurd q (wd_yes h5)) (fun _ => b_X10_readsStatement_71 (mo_H hz) m1 (b_X10_readsStatement_83 bl01 ⟨rfl, rfl⟩))) (fun q => absurd (wd_no h4) q)) (fun q => absurd (wd_no h3) q)) (fun q => absurd (wd_no h2) q)) (fun q => absurd (wd_no h1) q)), r1.S⟩
          · rw [if_neg h5]
            obtain ⟨c1, m1, K1, E1⟩ := L.bad (d := d + 4) (x := 1)
            exact ⟨c1, false, e_X10_readsStatement (b_X10_readsStatement_0 (mo_H hz) i1 (fun _ => b_X10_readsStatement_16 (mo_H hz) i2 (fun _ => b_X10_readsStatement_32 (mo_H hz) i3 (fun _ => b_X10_readsStatement_48 (mo_H hz) i4 (fun _ => b_X10_readsStatement_62 (mo_H hz) i5 (fun _ => b_X10_readsStatement_78 (mo_H hz) m1 (b_X10_readsStatement_83 (by decide) ⟨rfl, rfl⟩)) (fun q => absurd (wd_no h5) q)) (fun q => absurd (wd_no h4) q)) (fun q => absurd (wd_no h3) q)) (fun q => absurd (wd_no h2) q)) (fun q => absurd (wd_no h1) q)), K1.W, S.fk K1, fun h => (by cases h), fun _ => Or.inl ⟨rfl, E1⟩⟩
/-! errors, and that the text is read on -/
def er (p : rd_p) : Int32 := p.2.2.2.2
def EG (p : rd_p) (b : Bool) (p' : rd_p) : Prop := (b = true → er p' = er p) ∧ (b = false → er p' ≠ 0)
theorem tkT_er : er (tkT f m p) = er p := by
  unfold er tkT
  split
  · rfl
  · split
    · rfl
    · split <;> rfl
theorem fl_ne {k : Nat} (hk : 1 ≤ k) (hk4 : k < 5) (hp' : p.1 ≤ 400) : er (flP p (nI k)) ≠ 0 := by
  show 8 * nI p.1 + nI k ≠ 0
  rw [show (8 : Int32) = nI 8 from rfl, pk_mul, nI_add]
  exact fun e => by have := (i_eq0 (by omega)).mp e; omega
theorem nnR_eg {a b : Int32} (hp' : p.1 ≤ 400) : EG p (nnR p a b).1 (nnR p a b).2 := by
  unfold nnR
  split
  · split
    · exact ⟨fun h => (by cases h), fun _ => fl_ne (k := 2) (by decide) (by decide) hp'⟩
    · exact ⟨fun _ => rfl, fun h => (by cases h)⟩
  · exact ⟨fun h => (by cases h), fun _ => fl_ne (k := 1) (by decide) (by decide) hp'⟩
theorem enR_eg (hp' : p.1 ≤ 400) : EG p (enR f m p).1 (enR f m p).2 := by
  unfold enR
  split
  · exact ⟨fun _ => tkT_er, fun h => (by cases h)⟩
  · exact ⟨fun h => (by cases h), fun _ => fl_ne (k := 1) (by decide) (by decide) hp'⟩
theorem EG.tk {b : Bool} {p' : rd_p} (h : EG (tkT f m p) b p') : EG p b p' := ⟨fun e => (h.1 e).trans tkT_er, h.2⟩
theorem ok400 (hm : m ≤ 400) (ok : rdOk m p) : p.1 ≤ 400 := Nat.le_trans ok.1 (Nat.le_trans ok.2 hm)
theorem reU_eg (hm : m ≤ 400) {star : Bool} : ∀ j k a p F, rdOk m p → EG p (reU f m star j k a p F).1 (reU f m star j k a p F).2.1
  | 0, _, _, _, _, _ => ⟨fun _ => rfl, fun h => (by cases h)⟩
  | j + 1, k, a, p, F, ok => by
    unfold reU
    split
    · exact ⟨fun _ => rfl, fun h => (by cases h)⟩
    · split
      · split
        · exact (reU_eg hm j _ _ _ _ (tkT_ok ok)).tk
        · exact ⟨fun h => (by cases h), fun _ => fl_ne (k := 3) (by decide) (by decide) (ok400 hm ok)⟩
      · rename_i h
        exact ⟨fun h => (by cases h), fun _ => (nnR_eg (ok400 hm ok)).2 (Bool.eq_false_iff.mpr h)⟩
theorem reR_eg (hm : m ≤ 400) {star : Bool} {most : Nat} (ok : rdOk m p) : EG p (reR f m star most p F).1 (reR f m star most p F).2.1 := by
  unfold reR
  split
  · exact (reU_eg hm _ _ _ _ _ (tkT_ok (tkT_ok ok))).tk.tk
  · rename_i h
    exact ⟨fun h => (by cases h), fun _ => (nnR_eg (ok400 hm (tkT_ok ok))).2 (Bool.eq_false_iff.mpr h)⟩
theorem rcdU_eg (hm : m ≤ 400) : ∀ j k p q, rdOk m p → EG p (rcdU f m n j k p q).1 (rcdU f m n j k p q).2.1
  | 0, _, _, _, _ => ⟨fun _ => rfl, fun h => (by cases h)⟩
  | j + 1, k, p, q, ok => by
    unfold rcdU
    split
    · exact (rcdU_eg hm j _ _ _ (tkT_ok ok)).tk
    · rename_i h
      exact ⟨fun h => (by cases h), fun _ => (nnR_eg (ok400 hm ok)).2 (Bool.eq_false_iff.mpr h)⟩
theorem rcdR_eg (hm : m ≤ 400) (ok : rdOk m p) : EG p (rcdR f m p F q).1 (rcdR f m p F q).2.1 := by
  unfold rcdR
  split
  · have k := rcdU_eg (f := f) (n := F.1) hm (F.1 - 2) 0 (tkT f m p) q (tkT_ok ok)
    split
    · rename_i h
      exact ⟨fun _ => k.tk.1 h, fun h => (by cases h)⟩
    · rename_i h
      exact ⟨fun h => (by cases h), fun _ => k.tk.2 (Bool.eq_false_iff.mpr h)⟩
  · exact ⟨fun h => (by cases h), fun _ => fl_ne (k := 4) (by decide) (by decide) (ok400 hm ok)⟩
theorem rwR_eg (hm : m ≤ 400) (ok : rdOk m p) : EG p (rwR f m p F).1 (rwR f m p F).2.1 := by
  unfold rwR
  split
  · split
    · exact ⟨fun _ => tkT_er.trans (tkT_er.trans tkT_er), fun h => (by cases h)⟩
    · rename_i h
      exact ⟨fun h => (by cases h), fun _ => (nnR_eg (ok400 hm (tkT_ok (tkT_ok ok)))).2 (Bool.eq_false_iff.mpr h)⟩
  · rename_i h
    exact ⟨fun h => (by cases h), fun _ => (nnR_eg (ok400 hm (tkT_ok ok))).2 (Bool.eq_false_iff.mpr h)⟩
theorem rsR_eg (hm : m ≤ 400) (ok : rdOk m p) : EG p (rsR f m p F q).1 (rsR f m p F q).2.1 := by
  unfold rsR
  split
  · exact reR_eg hm ok
  · split
    · exact reR_eg hm ok
    · split
      · exact reR_eg hm ok
      · split
        · exact rcdR_eg hm ok
        · split
          · exact rwR_eg hm ok
          · exact ⟨fun h => (by cases h), fun _ => fl_ne (k := 1) (by decide) (by decide) (ok400 hm ok)⟩
def EM (p p' : rd_p) : Prop := p.2.1 ≤ p'.2.1 ∧ (p'.2.2.1 ≠ 0 → p.2.1 < p'.2.1)
theorem rn_lt {B : Int32 → Bool} {j i : Nat} (h : B (f i) = true) : i < rn B f (j + 1) i := by
  have := rn_le (B := B) (f := f) j (i + 1)
  unfold rn
  rw [if_pos h]; omega
theorem tkT_em (h : p0.2.1 ≤ p.2.1) (ok : p.2.1 ≤ m) : EM p0 (tkT f m p) := by
  have h1 := rn_le (B := blB) (f := f) (m - p.2.1) p.2.1
  have h4 : p.2.1 ≤ tkA f m p.2.1 := h1.1
  unfold EM tkT
  split
  · exact ⟨by show p0.2.1 ≤ tkA f m p.2.1; omega, fun h => absurd rfl h⟩
  · rename_i hlt
    obtain ⟨j, hj⟩ : ∃ j, m - tkA f m p.2.1 = j + 1 := ⟨m - tkA f m p.2.1 - 1, by omega⟩
    split
    · rename_i hl
      have := rn_lt (f := f) (j := j) hl
      rw [hj]
      exact ⟨by show p0.2.1 ≤ rn leB f (j + 1) _; omega, fun _ => by show p0.2.1 < rn leB f (j + 1) _; omega⟩
    · split
      · rename_i hl
        have := rn_lt (f := f) (j := j) hl
        rw [hj]
        exact ⟨by show p0.2.1 ≤ rn diB f (j + 1) _; omega, fun _ => by show p0.2.1 < rn diB f (j + 1) _; omega⟩
      · exact ⟨by show p0.2.1 ≤ tkA f m p.2.1 + 1; omega, fun _ => by show p0.2.1 < tkA f m p.2.1 + 1; omega⟩
theorem reU_em {star : Bool} : ∀ j k a p F, rdOk m p → EM p0 p → (reU f m star j k a p F).1 = true → EM p0 (reU f m star j k a p F).2.1
  | 0, _, _, _, _, _, h, _ => h
  | j + 1, k, a, p, F, ok, h, hb => by
    unfold reU at hb ⊢
    split
    · exact h
    · rename_i h1
      rw [if_neg h1] at hb
      split
      · rename_i h2
        rw [if_pos h2] at hb
        split
        · rename_i h3
          rw [if_pos h3] at hb
          exact reU_em j _ _ _ _ (tkT_ok ok) (tkT_em h.1 ok.2) hb
        · rename_i h3
          rw [if_neg h3] at hb; cases hb
      · rename_i h2
        rw [if_neg h2] at hb; cases hb
theorem reR_em {star : Bool} {most : Nat} (ok : rdOk m p) (hb : (reR f m star most p F).1 = true) : EM p (reR f m star most p F).2.1 := by
  have e1 := tkT_em (f := f) (Nat.le_refl p.2.1) ok.2
  unfold reR at hb ⊢
  split
  · rename_i h
    rw [if_pos h] at hb
    exact reU_em _ _ _ _ _ (tkT_ok (tkT_ok ok)) (tkT_em e1.1 (tkT_ok ok).2) hb
  · rename_i h
    rw [if_neg h] at hb; cases hb
theorem rcdU_em : ∀ j k p q, rdOk m p → EM p0 p → (rcdU f m n j k p q).1 = true → EM p0 (rcdU f m n j k p q).2.1
  | 0, _, _, _, _, h, _ => h
  | j + 1, k, p, q, ok, h, hb => by
    unfold rcdU at hb ⊢
    split
    · rename_i h2
      rw [if_pos h2] at hb
      exact rcdU_em j _ _ _ (tkT_ok ok) (tkT_em h.1 ok.2) hb
    · rename_i h2
      rw [if_neg h2] at hb; cases hb
theorem rsR_em (ok : rdOk m p) (hb : (rsR f m p F q).1 = true) : EM p (rsR f m p F q).2.1 := by
  have e1 := tkT_em (f := f) (Nat.le_refl p.2.1) ok.2
  unfold rsR at hb ⊢
  split
  · rename_i h; rw [if_pos h] at hb; exact reR_em ok hb
  · rename_i h; rw [if_neg h] at hb
    split
    · rename_i h; rw [if_pos h] at hb; exact reR_em ok hb
    · rename_i h; rw [if_neg h] at hb
      split
      · rename_i h; rw [if_pos h] at hb; exact reR_em ok hb
      · rename_i h; rw [if_neg h] at hb
        split
        · rename_i h; rw [if_pos h] at hb
          unfold rcdR at hb ⊢
          split
          · rename_i h2; rw [if_pos h2] at hb
            split
            · rename_i h3
              exact rcdU_em _ _ _ _ (tkT_ok ok) e1 h3
            · rename_i h3; rw [if_neg h3] at hb; cases hb
          · rename_i h2; rw [if_neg h2] at hb; cases hb
        · rename_i h; rw [if_neg h] at hb
          split
          · rename_i h; rw [if_pos h] at hb
            unfold rwR at hb ⊢
            split
            · rename_i h2; rw [if_pos h2] at hb
              split
              · exact tkT_em (tkT_em e1.1 (tkT_ok ok).2).1 (tkT_ok (tkT_ok ok)).2
              · rename_i h3; rw [if_neg h3] at hb; cases hb
            · rename_i h2; rw [if_neg h2] at hb; cases hb
          · rename_i h; rw [if_neg h] at hb; cases hb
end
