section
variable {d m n : Nat} {c c' c'' : Nat → List Value} {f : Nat → Int32} {z : Nat → Int32} {p : rd_p} {F : rd_f} {x y : Int32} {h : ab_H} {g : Nat → Nat} {q : Nat → Nat}
theorem RR.of {c1 c' : Nat → List Value} {R : Bool × rd_p × rd_f} (K : RK8 c c1) (r : RR c1 c' f m R) : RR c c' f m R := ⟨K.tr r.1, r.2⟩
theorem reU_s {star : Bool} {j k a : Nat} (hc : k ≠ 0 → p.2.2.1 = 2) : reU f m star (j + 1) k a p F = if (e1R f m a p F).1 = true then reU f m star j (k + 1) (if star = true then a else vn p) (e1R f m a p F).2.1 (e1R f m a p F).2.2 else e1R f m a p F := by
  have e : reU f m star (j + 1) k a p F = if k ≠ 0 ∧ p.2.2.1 ≠ 2 then (true, p, F) else if (nnR p 0 (nI F.1 - 1)).1 = true then (if ds F.2.1 F.1 a (vn p) = none then reU f m star j (k + 1) (if star = true then a else vn p) (tkT f m p) (F.1, jn F.2.1 a (vn p), F.2.2) else (false, flP p 3, F)) else (false, (nnR p 0 (nI F.1 - 1)).2, F) := rfl
  rw [e, if_neg (fun h => h.2 (hc h.1))]
  unfold e1R
  by_cases h1 : (nnR p 0 (nI F.1 - 1)).1 = true
  · rw [if_pos h1, if_pos h1]
    by_cases h2 : ds F.2.1 F.1 a (vn p) = none
    · rw [if_pos h2, if_pos h2, if_pos rfl]
    · rw [if_neg h2, if_neg h2, if_neg (by intro h; cases h)]
  · rw [if_neg h1, if_neg h1, if_neg (by intro h; cases h)]
theorem e1_ed {a : Nat} (G : LF c F) (ha : a < F.1) (h : (e1R f m a p F).1 = true) (hv : vn p < F.1) : ed (e1R f m a p F).2.2.2.1 F.1 = ed F.2.1 F.1 + 1 ∧ (e1R f m a p F).2.2.1 = F.1 := by
  have hn := G.2.2.2.1
  have FF := G.2.2.2.2.1
  unfold e1R at h ⊢
  by_cases h1 : (nnR p 0 (nI F.1 - 1)).1 = true
  · rw [if_pos h1] at h ⊢
    by_cases h2 : ds F.2.1 F.1 a (vn p) = none
    · rw [if_pos h2]
      have hnc : ¬ cn F.2.1 TT a (vn p) := fun h => by
        obtain ⟨r, e⟩ := (ds_cn FF.1 hn ha).mp h
        rw [h2] at e; cases e
      refine ⟨ed_jn FF.1 hn ha hv (fun e => hnc (by rw [← e]; exact cn_rf)) ?_, rfl⟩
      cases e : (F.2.1 a).testBit (vn p) with
      | false => rfl
      | true => exact absurd (FF.1.e1 e) hnc
    · rw [if_neg h2] at h; cases h
  · rw [if_neg h1] at h; cases h
theorem LQ.eL {star : Bool} {most : Nat} (hmost : most = 1 ∧ star = false ∨ most = 10) : ∀ j k a p F (c : Nat → List Value), LQ c f m p → LF c F → SC c → a < F.1 → (k ≠ 0 → p.2.2.1 = 2) → k + j + 1 = most → k ≤ ed F.2.1 F.1 → ∃ c', SW none m_X10_readsEdges (d + 4) 0 0 25 [some (.ref 70), some (.int (nI (if star = true then 0 else 1))), some (.int (nI (if most = 1 then 1 else 0))), some (.int (nI a))] [] (hp c) (rI (nI (if (reU f m star (j + 1) k a p F).1 = true then 1 else 0)) (hp c')) ∧ RR c c' f m (reU f m star (j + 1) k a p F) := by
  intro j
  induction j with
  | zero =>
    intro k a p F c L G S ha hc hk hed
    rw [reU_s hc]
    obtain ⟨z, hz⟩ := L.M
    obtain ⟨c1, m1, r1, t1⟩ := L.rE (d := d) G S ha
    by_cases hb : (e1R f m a p F).1 = true
    · rw [if_pos hb] at m1 ⊢
      obtain ⟨⟨z1, hz1, z21⟩, hv⟩ := t1 hb
      obtain ⟨L1, G1⟩ := r1.2.2.1 hb
      obtain ⟨e1, e2⟩ := e1_ed G ha hb hv
      have f21 : (moL z1)[21]? = some (.int (nI (vn p))) := by rw [← z21]; rfl
      have lt : ed (e1R f m a p F).2.2.2.1 F.1 < F.1 := by
        have := ed_lt G1.2.2.2.2.1 G1.2.2.1 G1.2.2.2.1
        rw [e2] at this; exact this
      have h1 : most = 1 := by
        rcases hmost with h | h
        · exact h.1
        · have := G.2.2.2.1; omega
      have hs : star = false := by
        rcases hmost with h | h
        · exact h.2
        · omega
      subst hs
      rw [if_pos h1]
      refine ⟨c1, b_X10_readsEdges_25 (mo_H hz) m1 (fun _ => b_X10_readsEdges_35 (fun q => absurd q (by decide)) (fun _ => b_X10_readsEdges_39 (mo_H hz1) f21 (b_X10_readsEdges_47 (fun _ => b_X10_readsEdges_60 ⟨rfl, rfl⟩) (fun q => absurd q (by decide))))) (fun q => absurd q (by decide)), r1.1, r1.2.1, fun _ => r1.2.2.1 hb, fun h => (by cases h)⟩
    · rw [if_neg hb] at m1 ⊢
      rw [if_neg hb]
      exact ⟨c1, b_X10_readsEdges_25 (mo_H hz) m1 (fun q => absurd rfl q) (fun _ => b_X10_readsEdges_33 ⟨rfl, rfl⟩), r1⟩
  | succ j ih =>
    intro k a p F c L G S ha hc hk hed
    rw [reU_s hc]
    obtain ⟨z, hz⟩ := L.M
    obtain ⟨c1, m1, r1, t1⟩ := L.rE (d := d) G S ha
    have hm10 : most = 10 := by rcases hmost with h | h <;> omega
    have hne : ¬ most = 1 := by omega
    by_cases hb : (e1R f m a p F).1 = true
    · rw [if_pos hb] at m1 ⊢
      obtain ⟨⟨z1, hz1, z21⟩, hv⟩ := t1 hb
      obtain ⟨L1, G1⟩ := r1.2.2.1 hb
      obtain ⟨e1, e2⟩ := e1_ed G ha hb hv
      have f21 : (moL z1)[21]? = some (.int (nI (vn p))) := by rw [← z21]; rfl
      have f17 := L1.f17 hz1
      have hna : (if star = true then a else vn p) < F.1 := by split <;> assumption
      have rest : ∃ c', SW none m_X10_readsEdges (d + 4) 0 0 47 [some (.ref 70), some (.int (nI (if star = true then 0 else 1))), some (.int (nI (if most = 1 then 1 else 0))), none] [.int (nI (if star = true then a else vn p))] (hp c1) (rI (nI (if (reU f m star (j + 1) (k + 1) (if star = true then a else vn p) (e1R f m a p F).2.1 (e1R f m a p F).2.2).1 = true then 1 else 0)) (hp c')) ∧ RR c1 c' f m (reU f m star (j + 1) (k + 1) (if star = true then a else vn p) (e1R f m a p F).2.1 (e1R f m a p F).2.2) := by
        by_cases h2 : (e1R f m a p F).2.1.2.2.1 = 2
        · obtain ⟨c2, s2, r2⟩ := ih (k + 1) (if star = true then a else vn p) _ _ c1 L1 G1 r1.2.1 (by rw [e2]; exact hna) (fun _ => h2) (by omega) (by rw [e2, e1]; omega)
          refine ⟨c2, b_X10_readsEdges_47 (fun q => absurd (by rw [if_neg hne]; rfl) q) (fun _ => b_X10_readsEdges_52 (mo_H hz1) f17 (fun _ => s2) (fun q => absurd (sM_3.mpr h2) q)), r2⟩
        · have e3 : reU f m star (j + 1) (k + 1) (if star = true then a else vn p) (e1R f m a p F).2.1 (e1R f m a p F).2.2 = (true, (e1R f m a p F).2.1, (e1R f m a p F).2.2) := if_pos ⟨by omega, h2⟩
          rw [e3]
          exact ⟨c1, b_X10_readsEdges_47 (fun q => absurd (by rw [if_neg hne]; rfl) q) (fun _ => b_X10_readsEdges_52 (mo_H hz1) f17 (fun q => absurd (sM_3.mp q) h2) (fun _ => b_X10_readsEdges_60 ⟨rfl, rfl⟩)), RK8.rf, r1.2.1, fun _ => ⟨L1, G1⟩, fun h => (by cases h)⟩
      obtain ⟨c2, s2, r2⟩ := rest
      refine ⟨c2, b_X10_readsEdges_25 (mo_H hz) m1 (fun _ => b_X10_readsEdges_35 (fun q => ?_) (fun q => b_X10_readsEdges_39 (mo_H hz1) f21 ?_)) (fun q => absurd q (by decide)), RR.of r1.1 r2⟩
      · have hs : star = true := by
          cases star with
          | true => rfl
          | false => exact absurd q (by decide)
        subst hs
        exact b_X10_readsEdges_46 s2
      · have hs : star = false := by
          cases star with
          | true => exact absurd rfl q
          | false => rfl
        subst hs
        exact s2
    · rw [if_neg hb] at m1 ⊢
      rw [if_neg hb]
      exact ⟨c1, b_X10_readsEdges_25 (mo_H hz) m1 (fun q => absurd rfl q) (fun _ => b_X10_readsEdges_33 ⟨rfl, rfl⟩), r1⟩
theorem LQ.rEs {star : Bool} {most : Nat} (hmost : most = 1 ∧ star = false ∨ most = 10) (L : LQ c f m p) (G : LF c F) (S : SC c) : ∃ c', MSE m_X10_readsEdges (d + 4) [.ref 70, .int (nI (if star = true then 0 else 1)), .int (nI (if most = 1 then 1 else 0))] (hp c) (some (.int (nI (if (reR f m star most p F).1 = true then 1 else 0)))) (hp c') ∧ RR c c' f m (reR f m star most p F) := by
  obtain ⟨z, hz⟩ := L.M
  obtain ⟨c1, m1, L1, K1⟩ := L.go (d := d + 1)
  have G1 := G.fk K1 (by decide) (by decide)
  have S1 := S.fk K1
  have W1 := (K1.mono K47).W
  obtain ⟨z1, hz1⟩ := L1.M
  obtain ⟨c2, m2, K2, t2, b2⟩ := L1.reads (d := d) (a := 0) (b := nI F.1 - 1)
  have S2 := S1.fk K2
  obtain ⟨z2, hz2', -⟩ := K2.2 z1 hz1
  unfold reR
  by_cases hb : (nnR (tkT f m p) 0 (nI F.1 - 1)).1 = true
  · rw [if_pos hb] at m2 ⊢
    obtain ⟨L2, z3, hz3, z21⟩ := t2 hb
    have G2 := G1.fk K2 (by decide) (by decide)
    obtain ⟨v1, v2, v3, v4⟩ := vn_in G.2.2.1 G.2.2.2.1 hb
    have f21 : (moL z3)[21]? = some (.int (nI (vn (tkT f m p)))) := by rw [← v4, ← z21]; rfl
    obtain ⟨j, hj⟩ : ∃ j, most = j + 1 := ⟨most - 1, by rcases hmost with h | h <;> omega⟩
    obtain ⟨c4, s4, r4⟩ := LQ.eL (d := d) hmost j 0 (vn (tkT f m p)) _ _ c2 L2 G2 S2 v3 (fun h => absurd rfl h) (by omega) (Nat.zero_le _)
    rw [← hj] at s4 r4
    exact ⟨c4, e_X10_readsEdges (b_X10_readsEdges_0 (mo_H hz) m1 (mo_H hz1) (G1.f10 hz1) (mo_H hz1) m2 (fun _ => b_X10_readsEdges_20 (mo_H hz3) f21 s4) (fun q => absurd q (by decide))), RR.of (W1.tr K2.W) r4⟩
  · rw [if_neg hb] at m2 ⊢
    exact ⟨c2, e_X10_readsEdges (b_X10_readsEdges_0 (mo_H hz) m1 (mo_H hz1) (G1.f10 hz1) (mo_H hz1) m2 (fun q => absurd rfl q) (fun _ => b_X10_readsEdges_18 ⟨rfl, rfl⟩)), W1.tr K2.W, S2, fun h => (by cases h), fun _ => b2 (Bool.eq_false_iff.mpr hb)⟩
end
