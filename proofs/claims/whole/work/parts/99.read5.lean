section
variable {d m n : Nat} {c c' c'' : Nat → List Value} {f : Nat → Int32} {z : Nat → Int32} {p : rd_p} {F : rd_f} {x y : Int32} {h : ab_H} {g : Nat → Nat} {q : Nat → Nat}
theorem tsU_pos {e : Nat → Nat} : ∀ k i, i < k → 0 < e i → 0 < tsU e k
  | 0, i, h, _ => absurd h (Nat.not_lt_zero i)
  | k + 1, i, h, hp' => by
    show 0 < tsU e k + e k
    by_cases h2 : i = k
    · subst h2; omega
    · have := tsU_pos k i (by omega) hp'
      omega
theorem LF.has (G : LF c F) : MSE m_X10_hasEdges d [.ref 70] (hp c) (some (.int (nI (if ed F.2.1 F.1 = 0 then 0 else 1)))) (hp c) := by
  obtain ⟨⟨z, hz, z9, z10⟩, row, h1, hn, FF, -⟩ := G
  have H72 : (hp c)[72]? = some (100, ar 20 (fun i => nI (sv F.2.1 (wq F.1 F.2.2) i))) := hp_is 72 100 row (by decide) (by decide)
  have f10 : (moL z)[10]? = some (.int (nI F.1)) := by rw [← z10]; rfl
  refine e_X10_hasEdges (b_X10_hasEdges_0 ?_)
  have key := up_all (n := F.1) (T := fun k => (∀ i, i < k → F.2.1 i = 0) → a_X10_hasEdges_2 d 0 0 70 (nI k) (hp c) (rI (nI (if ed F.2.1 F.1 = 0 then 0 else 1)) (hp c))) (fun k hk ih h0 => ?_) (fun h0 => ?_)
  · exact key (fun i h => absurd h (Nat.not_lt_zero i))
  · have hgk := FF.1.k hn k
    refine b_X10_hasEdges_2 (mo_H hz) f10 (fun q => absurd q (nI_ge hk (by omega))) (fun _ => b_X10_hasEdges_10 (x4 := nI (F.2.1 k)) (mo_H hz) rfl H72 (nI_pos (by omega)) (by rw [at20 (by omega), sv_lo (by omega)]) (fun q => b_X10_hasEdges_21 ?_) (fun q => b_X10_hasEdges_19 ⟨?_, rfl⟩))
    · rw [nI_1]
      refine ih (fun i hi => ?_)
      by_cases e : i = k
      · rw [e]; exact (i_eq0 (by omega)).mp q
      · exact h0 i (by omega)
    · have hne : F.2.1 k ≠ 0 := fun e => q (by rw [e]; rfl)
      rw [if_neg (fun e => hne (ed_zero FF hn e k))]
      rfl
  · refine b_X10_hasEdges_2 (mo_H hz) f10 (fun _ => b_X10_hasEdges_27 ⟨?_, rfl⟩) (fun q => absurd (nI_le (Nat.le_refl _) (by omega)) q)
    rw [if_pos]; · rfl
    unfold ed
    rw [tsU_ext (e := fun v => pc (F.2.1 v)) (f := fun _ => 0) F.1 (fun i hi => by rw [h0 i hi]; rfl), tsU_0]
/-- what a statement leaves: an end may be looked for at once -/
def RS (c c' : Nat → List Value) (f : Nat → Int32) (m : Nat) (b : Bool) (R : Bool × rd_p × rd_f) : Prop := RK8 c c' ∧ SC c' ∧ (b = true → R.1 = true ∧ LQ c' f m R.2.1 ∧ LF c' R.2.2) ∧ (b = false → (R.1 = false ∧ LE c' R.2.1.2.2.2.2) ∨ (R.1 = true ∧ (enR f m R.2.1).1 = false ∧ LE c' (enR f m R.2.1).2.2.2.2.2))
theorem RR.S {R : Bool × rd_p × rd_f} (r : RR c c' f m R) : RS c c' f m R.1 R := ⟨r.1, r.2.1, fun h => ⟨h, r.2.2.1 h⟩, fun h => Or.inl ⟨h, r.2.2.2 h⟩⟩
theorem RS.of {c1 : Nat → List Value} {b : Bool} {R : Bool × rd_p × rd_f} (K : RK8 c c1) (r : RS c1 c' f m b R) : RS c c' f m b R := ⟨K.tr r.1, r.2⟩
theorem LQ.cL {q0 : Nat → Nat} : ∀ j k p (q r : Nat → Nat) (c : Nat → List Value), LQ c f m p → LF c F → SC c → c 78 = ar 10 (fun i => nI (r i)) → (∀ i, i < k → r i = q i) → (∀ i, i < k → q i < F.1) → k + j = F.1 - 2 → ∃ c' b, SW none m_X10_readsCode (d + 4) 0 0 19 [some (.ref 70), some (.int (nI k))] [] (hp c) (rI (nI (if b = true then 1 else 0)) (hp c')) ∧ RS c c' f m b (if (rcdU f m F.1 j k p q).1 = true then (true, (rcdU f m F.1 j k p q).2.1, (F.1, plT (rcdU f m F.1 j k p q).2.2 F.1, F.2.2)) else (false, (rcdU f m F.1 j k p q).2.1, F)) := by
  intro j
  induction j with
  | zero =>
    intro k p q r c L G S hr hrq hq hk
    have hk : k = F.1 - 2 := by omega
    have hn := G.2.2.2.1
    have h1 := G.2.2.1
    obtain ⟨z, hz⟩ := L.M
    have e0 : rcdU f m F.1 0 k p q = (true, p, q) := rfl
    rw [e0]
    have bad1 : ∀ P' : Prop, p.2.2.1 ≠ 3 → (enR f m p).1 = false ∧ (enR f m p).2.2.2.2.2 = 8 * nI p.1 + 1 := fun _ h => by
      unfold enR; rw [if_neg h]; exact ⟨rfl, rfl⟩
    obtain ⟨c1, m1, K1, E1⟩ := L.bad (d := d + 3) (x := 1)
    have rs1 : p.2.2.1 ≠ 3 → RS c c1 f m false (true, p, (F.1, plT q F.1, F.2.2)) := fun h => ⟨K1.W, S.fk K1, fun h => (by cases h), fun _ => Or.inr ⟨rfl, (bad1 True h).1, by rw [show (enR f m (true, p, (F.1, plT q F.1, F.2.2)).2.1).2.2.2.2.2 = 8 * nI p.1 + 1 from (bad1 True h).2]; exact E1⟩⟩
    by_cases h2 : p.2.2.1 = 2
    · refine ⟨c1, false, b_X10_readsCode_19 (mo_H hz) (L.f17 hz) (fun q => absurd (sM_3.mpr h2) q) (fun _ => b_X10_readsCode_27 (mo_H hz) (G.f10 hz) (r_codeMany hn) (fun q => absurd (by rw [hk]) q) (fun _ => b_X10_readsCode_38 (mo_H hz) m1 (by decide) ⟨rfl, rfl⟩)), rs1 (by omega)⟩
    · by_cases h3 : p.2.2.1 = 3
      · have hqr : ∀ i, i < F.1 - 2 → r i < F.1 := fun i hi => by rw [hrq i (by omega)]; exact hq i (by omega)
        obtain ⟨o, ho⟩ := S.1
        have m5 := r_grows (d := d + 1) hz G.2.1 hr h1 hn hqr
        rw [plT_ext (q := r) (p := q) (fun i hi => hrq i (by omega))] at m5
        have FT := (pl_tree (n := F.1) (q := q) h1 hn (fun i hi => hq i (by omega))).1
        obtain ⟨c5, hc5⟩ : ∃ c5, c5 = cG c z F.1 (plT q F.1) (wq F.1 F.2.2) := ⟨_, rfl⟩
        rw [← hc5] at m5
        have Ga := G.row (g := plT q F.1) (w := F.2.2) FT G.2.2.2.2.2
        have Ka : RK8 c (up1 c 72 (ar 20 (fun i => nI (sv (plT q F.1) (wq F.1 F.2.2) i)))) := RK8.up (by decide)
        have Kb : RK8 (up1 c 72 (ar 20 (fun i => nI (sv (plT q F.1) (wq F.1 F.2.2) i)))) c5 := by rw [hc5]; exact RK8.F10 ((up1_ne _ _ (by decide)).trans hz)
        have e5 : ∀ i, i ≠ 70 → c5 i = up1 c 72 (ar 20 (fun i => nI (sv (plT q F.1) (wq F.1 F.2.2) i))) i := fun i hi => by rw [hc5]; exact up1_ne _ _ hi
        have e570 : c5 70 = moL (up1 z 10 (nI F.1)) := by rw [hc5]; exact up1_same _ _ _
        have S5 : SC c5 := (S.r72 (o := sv (plT q F.1) (wq F.1 F.2.2))).same (fun i hi => e5 i (by omega))
        have L5 : LQ c5 f m p := by
          obtain ⟨⟨z1, hz1, B, h15, h16, h17, h18⟩, rr⟩ := L
          refine ⟨⟨up1 z1 10 (nI F.1), ?_, ⟨(e5 77 (by decide)).trans ((up1_ne _ _ (by decide)).trans B.1), (up1_ne _ _ (by decide)).trans B.2.1, B.2.2⟩, (up1_ne _ _ (by decide)).trans h15, (up1_ne _ _ (by decide)).trans h16, (up1_ne _ _ (by decide)).trans h17, fun h => (up1_ne _ _ (by decide)).trans (h18 h)⟩, rr⟩
          rw [e570, ← moS10, ← moS10, ← hz, hz1]
        have G5 : LF c5 (F.1, plT q F.1, F.2.2) := by
          obtain ⟨⟨z1, hz1, z9, z10⟩, rr, r3⟩ := Ga
          have hz1 : c 70 = moL z1 := (up1_ne _ _ (by decide)).symm.trans hz1
          refine ⟨⟨up1 z1 10 (nI F.1), ?_, (up1_ne _ _ (by decide)).trans z9, up1_same _ _ _⟩, (e5 72 (by decide)).trans rr, r3⟩
          rw [e570, ← moS10, ← moS10, ← hz, hz1]
        refine ⟨c5, true, b_X10_readsCode_19 (mo_H hz) (L.f17 hz) (fun _ => b_X10_readsCode_81 (mo_H hz) (G.f10 hz) (r_codeMany hn) (fun _ => b_X10_readsCode_98 (mo_H hz) (L.f17 hz) (fun _ => b_X10_readsCode_112 (mo_H hz) (G.f10 hz) (mo_H hz) m5 ⟨rfl, rfl⟩) (fun q => absurd (sM_4.mpr h3) q)) (fun q => absurd (nI_le (show F.1 - 2 ≤ k by omega) (by omega)) q)) (fun q => absurd (sM_3.mp q) h2), Ka.tr Kb, S5, fun _ => ⟨rfl, L5, G5⟩, fun h => (by cases h)⟩
      · exact ⟨c1, false, b_X10_readsCode_19 (mo_H hz) (L.f17 hz) (fun _ => b_X10_readsCode_81 (mo_H hz) (G.f10 hz) (r_codeMany hn) (fun _ => b_X10_readsCode_98 (mo_H hz) (L.f17 hz) (fun q => absurd (sM_4.mp q) h3) (fun _ => b_X10_readsCode_106 (mo_H hz) m1 (by decide) ⟨rfl, rfl⟩)) (fun q => absurd (nI_le (show F.1 - 2 ≤ k by omega) (by omega)) q)) (fun q => absurd (sM_3.mp q) h2), rs1 h3⟩
  | succ j ih =>
    intro k p q r c L G S hr hrq hq hk
    have hn := G.2.2.2.1
    have h1 := G.2.2.1
    obtain ⟨z, hz⟩ := L.M
    have eU : rcdU f m F.1 (j + 1) k p q = if (nnR p 0 (nI F.1 - 1)).1 = true then rcdU f m F.1 j (k + 1) (tkT f m p) (up1 q k (vn p)) else (false, (nnR p 0 (nI F.1 - 1)).2, q) := rfl
    by_cases h2 : p.2.2.1 = 2
    · obtain ⟨v, hv, ev⟩ := L.2.2.2 h2
      have evn : vn p = v := by unfold vn; rw [ev]; exact cl_nI (by omega)
      have eN := nn_ok h1 hn h2 hv ev
      have f18 := L.f18 hz h2
      rw [ev] at f18
      rw [eU, eN, evn]
      by_cases hvn : v < F.1
      · rw [if_pos hvn, if_pos rfl]
        have L1 := L.off (i := 78) (v := ar 10 (fun i => nI (up1 r k v i))) (by decide)
        have G1 := G.off (i := 78) (v := ar 10 (fun i => nI (up1 r k v i))) (by decide)
        have S1 : SC (up1 c 78 (ar 10 (fun i => nI (up1 r k v i)))) := S.r78
        obtain ⟨c2, m2, L2, K2⟩ := L1.go (d := d + 1)
        have e1 : (hp c).set 78 (100, (ar 10 (fun i => nI (r i))).set (nI k).toNatClampNeg (.int (nI v))) = hp (up1 c 78 (ar 10 (fun i => nI (up1 r k v i)))) := by rw [cl_nI (by omega), ar_upN, hp_set (by decide) (by decide)]
        obtain ⟨c3, b, s3, r3⟩ := ih (k + 1) (tkT f m p) (up1 q k v) (up1 r k v) c2 L2 (G1.fk K2 (by decide) (by decide)) (S1.fk K2) ((K2.1 78 (by decide)).trans (up1_same _ _ _)) (fun i hi => by
          by_cases e : i = k
          · rw [e, up1_same, up1_same]
          · rw [up1_ne _ _ e, up1_ne _ _ e]; exact hrq i (by omega)) (fun i hi => by
          by_cases e : i = k
          · rw [e, up1_same]; exact hvn
          · rw [up1_ne _ _ e]; exact hq i (by omega)) (by omega)
        refine ⟨c3, b, b_X10_readsCode_19 (mo_H hz) (L.f17 hz) (fun q => absurd (sM_3.mpr h2) q) (fun _ => b_X10_readsCode_27 (mo_H hz) (G.f10 hz) (r_codeMany hn) (fun _ => b_X10_readsCode_44 (mo_H hz) f18 (mo_H hz) (G.f10 hz) (fun _ => b_X10_readsCode_61 (mo_H hz) rfl (mo_H hz) f18 (hp_is 78 100 hr (by decide) (by decide)) (nI_pos (by omega)) (by rw [cl_nI (by omega), ar_len]; omega) (by rw [e1]; exact mo_H ((up1_ne _ _ (by decide)).trans hz)) (by rw [e1]; exact m2) (by rw [nI_1]; exact s3)) (fun q => absurd (nI_lt hvn (by omega)) q)) (fun q => absurd ((i_eq (by omega) (by omega)).mp q) (by omega))), RS.of ((RK8.up (by decide)).tr (K2.mono K47).W) r3⟩
      · rw [if_neg hvn]
        obtain ⟨c1, m1, K1, E1⟩ := L.bad (d := d + 3) (x := 2)
        refine ⟨c1, false, b_X10_readsCode_19 (mo_H hz) (L.f17 hz) (fun q => absurd (sM_3.mpr h2) q) (fun _ => b_X10_readsCode_27 (mo_H hz) (G.f10 hz) (r_codeMany hn) (fun _ => b_X10_readsCode_44 (mo_H hz) f18 (mo_H hz) (G.f10 hz) (fun q => absurd q (nI_nlt (by omega) (by omega))) (fun _ => b_X10_readsCode_55 (mo_H hz) m1 (by decide) ⟨rfl, rfl⟩)) (fun q => absurd ((i_eq (by omega) (by omega)).mp q) (by omega))), K1.W, S.fk K1, fun h => (by cases h), fun _ => Or.inl ⟨rfl, E1⟩⟩
    · have eN : nnR p 0 (nI F.1 - 1) = (false, flP p 1) := by unfold nnR; rw [if_neg h2]
      rw [eU, eN]
      obtain ⟨c1, m1, K1, E1⟩ := L.bad (d := d + 3) (x := 1)
      refine ⟨c1, false, b_X10_readsCode_19 (mo_H hz) (L.f17 hz) (fun _ => b_X10_readsCode_81 (mo_H hz) (G.f10 hz) (r_codeMany hn) (fun q => absurd ((nI_leI (by omega) (by omega)).mp q) (by omega)) (fun _ => b_X10_readsCode_92 (mo_H hz) m1 (by decide) ⟨rfl, rfl⟩)) (fun q => absurd (sM_3.mp q) h2), K1.W, S.fk K1, fun h => (by cases h), fun _ => Or.inl ⟨rfl, E1⟩⟩
theorem LQ.rC (L : LQ c f m p) (G : LF c F) (S : SC c) : ∃ c' b, MSE m_X10_readsCode (d + 4) [.ref 70] (hp c) (some (.int (nI (if b = true then 1 else 0)))) (hp c') ∧ RS c c' f m b ((rcdR f m p F q).1, (rcdR f m p F q).2.1, (rcdR f m p F q).2.2.1) := by
  obtain ⟨z, hz⟩ := L.M
  have mh := G.has (d := d + 3)
  unfold rcdR
  by_cases h0 : ed F.2.1 F.1 = 0
  · rw [if_pos h0] at mh ⊢
    obtain ⟨c1, m1, L1, K1⟩ := L.go (d := d + 1)
    obtain ⟨r, hr⟩ := (S.fk K1).2.2.1
    obtain ⟨c3, b, s3, r3⟩ := LQ.cL (d := d) (q0 := q) (F.1 - 2) 0 (tkT f m p) q r c1 L1 (G.fk K1 (by decide) (by decide)) (S.fk K1) hr (fun i h => absurd h (Nat.not_lt_zero i)) (fun i h => absurd h (Nat.not_lt_zero i)) (by omega)
    refine ⟨c3, b, e_X10_readsCode (b_X10_readsCode_0 (mo_H hz) mh (fun _ => b_X10_readsCode_13 (mo_H hz) m1 s3) (fun q => absurd rfl q)), ?_⟩
    have r4 := RS.of (K1.mono K47).W r3
    by_cases hb : (rcdU f m F.1 (F.1 - 2) 0 (tkT f m p) q).1 = true
    · rw [if_pos hb] at r4 ⊢; exact r4
    · rw [if_neg hb] at r4 ⊢; exact r4
  · rw [if_neg h0] at mh ⊢
    obtain ⟨c1, m1, K1, E1⟩ := L.bad (d := d + 3) (x := 4)
    exact ⟨c1, false, e_X10_readsCode (b_X10_readsCode_0 (mo_H hz) mh (fun q => absurd q (by decide)) (fun _ => b_X10_readsCode_7 (mo_H hz) m1 (by decide) ⟨rfl, rfl⟩)), K1.W, S.fk K1, fun h => (by cases h), fun _ => Or.inl ⟨rfl, E1⟩⟩
end
