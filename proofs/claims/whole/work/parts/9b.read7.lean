section
variable {d m n : Nat} {c c' c'' : Nat → List Value} {f : Nat → Int32} {z : Nat → Int32} {p p0 : rd_p} {F : rd_f} {x y : Int32} {h : ab_H} {g w : Nat → Nat} {q : Nat → Nat}
/-! the whole text -/
def RA (c c' : Nat → List Value) (b : Bool) (R : rd_p × rd_f × (Nat → Nat)) : Prop := RK8 c c' ∧ SC c' ∧ (b = true → er R.1 = 0 ∧ LF c' R.2.1) ∧ (b = false → er R.1 ≠ 0 ∧ LE c' (er R.1))
theorem RA.of {c1 : Nat → List Value} {b : Bool} {R : rd_p × rd_f × (Nat → Nat)} (K : RK8 c c1) (r : RA c1 c' b R) : RA c c' b R := ⟨K.tr r.1, r.2⟩
theorem rtU_f : ∀ j, rtU f m j false p F q = (p, F, q)
  | 0 => rfl
  | _ + 1 => rfl
theorem LQ.lp (hm : m ≤ 400) : ∀ j p F q (c : Nat → List Value), LQ c f m p → LF c F → SC c → er p = 0 → m < p.2.1 + j → ∃ c' b, SW none m_X10_readsAll (d + 6) 0 0 95 [some (.ref 70), none] [] (hp c) (rI (nI (if b = true then 1 else 0)) (hp c')) ∧ RA c c' b (rtU f m j true p F q) := by
  intro j
  induction j with
  | zero =>
    intro p F q c L G S he hj
    have := L.2.1.2
    omega
  | succ j ih =>
    intro p F q c L G S he hj
    obtain ⟨z, hz⟩ := L.M
    have hJ := L.2.1
    have eU : rtU f m (j + 1) true p F q = if p.2.2.1 = 0 then (p, F, q) else if (rsR f m p F q).1 = true then rtU f m j (enR f m (rsR f m p F q).2.1).1 (enR f m (rsR f m p F q).2.1).2 (rsR f m p F q).2.2.1 (rsR f m p F q).2.2.2 else rtU f m j false (rsR f m p F q).2.1 (rsR f m p F q).2.2.1 (rsR f m p F q).2.2.2 := rfl
    rw [eU]
    by_cases h0 : p.2.2.1 = 0
    · rw [if_pos h0]
      exact ⟨c, true, b_X10_readsAll_95 (mo_H hz) (L.f17 hz) (fun _ => b_X10_readsAll_118 ⟨rfl, rfl⟩) (fun q => absurd (sM_0.mpr h0) q), RK8.rf, S, fun _ => ⟨he, G⟩, fun h => (by cases h)⟩
    · rw [if_neg h0]
      obtain ⟨c1, b1, m1, r1⟩ := L.rS (d := d) (q := q) G S
      have eg := rsR_eg (f := f) (F := F) (q := q) hm hJ
      obtain ⟨k1, s1, t1, e1⟩ := r1
      have st0 : b1 = false → SW none m_X10_readsAll (d + 6) 0 0 95 [some (.ref 70), none] [] (hp c) (rI 0 (hp c1)) := fun hb => by
        rw [hb] at m1
        exact b_X10_readsAll_95 (mo_H hz) (L.f17 hz) (fun q => absurd (sM_0.mp q) h0) (fun _ => b_X10_readsAll_102 (mo_H hz) m1 (fun _ => b_X10_readsAll_116 ⟨rfl, rfl⟩) (fun q => absurd rfl q))
      cases hb : b1 with
      | false =>
        have e1 := e1 hb
        rcases e1 with ⟨a1, a2⟩ | ⟨a1, a2, a3⟩
        · have a1 : (rsR f m p F q).1 = false := a1
          rw [if_neg (by rw [a1]; decide), rtU_f]
          exact ⟨c1, false, st0 hb, k1, s1, fun h => (by cases h), fun _ => ⟨eg.2 a1, a2⟩⟩
        · have a1 : (rsR f m p F q).1 = true := a1
          have a2 : (enR f m (rsR f m p F q).2.1).1 = false := a2
          have ok2 : (rsR f m p F q).2.1.1 ≤ 400 := ok400 hm (rsR_J (q := q) ⟨hJ, L.2.2.1, ⟨G.2.2.2.1, G.2.2.2.2.1.1.k G.2.2.2.1⟩, G.2.2.1⟩).1
          rw [if_pos a1, a2, rtU_f]
          exact ⟨c1, false, st0 hb, k1, s1, fun h => (by cases h), fun _ => ⟨(enR_eg ok2).2 a2, a3⟩⟩
      | true =>
        obtain ⟨a1, L1, G1⟩ := t1 hb
        have a1 : (rsR f m p F q).1 = true := a1
        rw [if_pos a1]
        rw [hb] at m1
        obtain ⟨z1, hz1⟩ := L1.M
        obtain ⟨c2, m2, K2, t2, e2⟩ := L1.ends (d := d + 2)
        have ok2 := ok400 hm L1.2.1
        have em := rsR_em hJ a1
        have stx : ∀ P, SW none m_X10_readsAll (d + 6) 0 0 109 [some (.ref 70), none] [] (hp c1) P → SW none m_X10_readsAll (d + 6) 0 0 95 [some (.ref 70), none] [] (hp c) P := fun P K => b_X10_readsAll_95 (mo_H hz) (L.f17 hz) (fun q => absurd (sM_0.mp q) h0) (fun _ => b_X10_readsAll_102 (mo_H hz) m1 (fun q => absurd q (by decide)) (fun _ => K))
        cases hn : (enR f m (rsR f m p F q).2.1).1 with
        | true =>
          have hn' : (enR f m ((rsR f m p F q).1, (rsR f m p F q).2.1, (rsR f m p F q).2.2.1).2.1).1 = true := hn
          rw [hn'] at m2
          have L2 := t2 hn'
          have e3 : er (enR f m (rsR f m p F q).2.1).2 = 0 := ((enR_eg ok2).1 hn).trans ((eg.1 a1).trans he)
          have bd : m < (enR f m (rsR f m p F q).2.1).2.2.1 + j := by
            unfold enR at hn ⊢
            by_cases h3 : (rsR f m p F q).2.1.2.2.1 = 3
            · rw [if_pos h3]
              have h4 : p.2.1 < (rsR f m p F q).2.1.2.1 := em.2 (by omega)
              have h5 : (rsR f m p F q).2.1.2.1 ≤ (tkT f m (rsR f m p F q).2.1).2.1 := (tkT_em (f := f) (p0 := (rsR f m p F q).2.1) (Nat.le_refl _) L1.2.1.2).1
              show m < (tkT f m (rsR f m p F q).2.1).2.1 + j
              omega
            · rw [if_neg h3] at hn; cases hn
          obtain ⟨c4, b4, s4, r4⟩ := ih _ (rsR f m p F q).2.2.1 (rsR f m p F q).2.2.2 c2 L2 (G1.fk K2 (by decide) (by decide)) (s1.fk K2) e3 bd
          exact ⟨c4, b4, stx _ (b_X10_readsAll_109 (mo_H hz1) m2 (fun _ => s4) (fun q => absurd q (by decide))), RA.of (k1.tr K2.W) r4⟩
        | false =>
          have hn' : (enR f m ((rsR f m p F q).1, (rsR f m p F q).2.1, (rsR f m p F q).2.2.1).2.1).1 = false := hn
          rw [hn'] at m2
          rw [rtU_f]
          exact ⟨c2, false, stx _ (b_X10_readsAll_109 (mo_H hz1) m2 (fun q => absurd rfl q) (fun _ => b_X10_readsAll_116 ⟨rfl, rfl⟩)), k1.tr K2.W, s1.fk K2, fun h => (by cases h), fun _ => ⟨(enR_eg ok2).2 hn, e2 hn'⟩⟩
theorem LQ.go0 (B : BF c z m f) (hz : c 70 = moL z) (h15 : z 15 = nI p.2.1) (he : p.2.1 ≤ m) : ∃ c', MSE m_X10_go (d + 2) [.ref 70] (hp c) none (hp c') ∧ LQ c' f m (tkT f m p) ∧ FK K4 c c' := by
  obtain ⟨v, m1, hv⟩ := r_go (d := d) B hz h15 he
  refine ⟨_, m1, ⟨⟨_, up1_same _ _ _, ⟨(up1_ne _ _ (by decide)).trans B.1, B.2⟩, rfl, rfl, rfl, fun h => hv h⟩, tkT_le he, tkT_t, tkT_nv B.2.2.2⟩, fun i hi => up1_ne _ _ hi, fun z' hz' => ?_⟩
  refine ⟨zg z' (tkT f m p).2.1 (nI (tkT f m p).1) (sM (tkT f m p).2.2.1) v, ?_, fun i hi => ?_⟩
  · show up1 c 70 (moL (zg z (tkT f m p).2.1 (nI (tkT f m p).1) (sM (tkT f m p).2.2.1) v)) 70 = _
    rw [up1_same]
    have e : ∀ z : Nat → Int32, moL (zg z (tkT f m p).2.1 (nI (tkT f m p).1) (sM (tkT f m p).2.2.1) v) = ((((moL z).set 15 (.int (nI (tkT f m p).2.1))).set 16 (.int (nI (tkT f m p).1))).set 17 (.int (sM (tkT f m p).2.2.1))).set 18 (.int v) := fun z => rfl
    rw [e, e, ← hz, hz']
  · simp only [K4, List.contains_cons, List.contains_nil, Bool.or_false, Bool.or_eq_false_iff, beq_eq_false_iff_ne, ne_eq] at hi
    unfold zg
    rw [if_neg hi.1, if_neg hi.2.1, if_neg hi.2.2.1, if_neg hi.2.2.2]
/-- the other row anew -/
theorem LQ.clr {c : Nat → List Value} (hz : c 70 = moL z) (h10 : z 10 = nI n) (hn : n ≤ 10) {g0 w0 : Nat → Nat} (hr : c 72 = ar 20 (fun i => nI (sv g0 w0 i))) {P : ab_O → ab_H → Prop} (K : SW none m_X10_readsAll (d + 6) 0 0 95 [some (.ref 70), none] [] (hp (cX c (fun _ => 0) (wq n (fun _ => 1)))) P) : SW none m_X10_readsAll (d + 6) 0 0 52 [some (.ref 70), none] [] (hp c) P := by
  have f10 : (moL z)[10]? = some (.int (nI n)) := by rw [← h10]; rfl
  have M := fun g' w' : Nat → Nat => cX_M (c := c) (g := g') (w := w') hz
  refine b_X10_readsAll_52 ?_
  have key := up_all (n := 10) (T := fun k => a_X10_readsAll_54 (d + 6) 0 0 70 (nI k) (hp (cX c (fun i => if i < k then 0 else g0 i) (fun i => if i < k then wq n (fun _ => 1) i else w0 i))) P) (fun k hk ih => ?_) ?_
  · have e0 : cX c (fun i => if i < 0 then 0 else g0 i) (fun i => if i < 0 then wq n (fun _ => 1) i else w0 i) = c := by
      have e1 : (fun i => if i < 0 then 0 else g0 i) = g0 := funext fun i => if_neg (Nat.not_lt_zero i)
      have e2 : (fun i => if i < 0 then wq n (fun _ => 1) i else w0 i) = w0 := funext fun i => if_neg (Nat.not_lt_zero i)
      rw [e1, e2]; exact up1_id hr
    have key : a_X10_readsAll_54 (d + 6) 0 0 70 (nI 0) (hp (cX c (fun i => if i < 0 then 0 else g0 i) (fun i => if i < 0 then wq n (fun _ => 1) i else w0 i))) P := key
    rw [e0] at key; exact key
  · have eg : up1 (fun i => if i < k then 0 else g0 i) k 0 = fun i => if i < k + 1 then 0 else g0 i := funext fun i => by
      by_cases e : i = k
      · subst e; rw [up1_same, if_pos (show i < i + 1 by omega)]
      · rw [up1_ne _ _ e]
        by_cases h : i < k
        · rw [if_pos h, if_pos (show i < k + 1 by omega)]
        · rw [if_neg h, if_neg (show ¬ i < k + 1 by omega)]
    have ew : up1 (fun i => if i < k then wq n (fun _ => 1) i else w0 i) k (wq n (fun _ => 1) k) = fun i => if i < k + 1 then wq n (fun _ => 1) i else w0 i := funext fun i => by
      by_cases e : i = k
      · subst e; rw [up1_same, if_pos (show i < i + 1 by omega)]
      · rw [up1_ne _ _ e]
        by_cases h : i < k
        · rw [if_pos h, if_pos (show i < k + 1 by omega)]
        · rw [if_neg h, if_neg (show ¬ i < k + 1 by omega)]
    have e1 : (hp (cX c (fun i => if i < k then 0 else g0 i) (fun i => if i < k then wq n (fun _ => 1) i else w0 i))).set 72 (100, (ar 20 (fun i => nI (sv (fun i => if i < k then 0 else g0 i) (fun i => if i < k then wq n (fun _ => 1) i else w0 i) i))).set (nI k).toNatClampNeg (.int 0)) = hp (cX c (fun i => if i < k + 1 then 0 else g0 i) (fun i => if i < k then wq n (fun _ => 1) i else w0 i)) := by
      rw [show (0 : Int32) = nI 0 from rfl, cl_nI (by omega), ar_upN, sv_up (by omega), cX_s, eg]
    have e10 : (10 : Int32) + nI k = nI (10 + k) := nI_add 10 k
    have st : SW none m_X10_readsAll (d + 6) 0 0 88 [some (.ref 70), some (.int (nI k))] [.int (nI (wq n (fun _ => 1) k)), .int (10 + nI k), .ref 72] (hp (cX c (fun i => if i < k + 1 then 0 else g0 i) (fun i => if i < k then wq n (fun _ => 1) i else w0 i))) P := by
      refine b_X10_readsAll_88 cX_H (by rw [e10]; exact nI_pos (by omega)) (by rw [e10]; exact ln20 (by omega)) ?_
      rw [e10, cl_nI (by omega), ar_upN, sv_upw, cX_s, ew, nI_1]
      exact ih
    refine b_X10_readsAll_54 (fun q => absurd q (nI_ge (b := 10) hk (by decide))) (fun _ => b_X10_readsAll_60 (M _ _) rfl cX_H (nI_pos (by omega)) (ln20 (by omega)) (by rw [e1]; exact M _ _) rfl (by rw [e1]; exact M _ _) f10 (fun q => ?_) (fun q => ?_))
    · rw [e1]
      refine b_X10_readsAll_87 ?_
      have : wq n (fun _ => 1) k = 0 := if_neg (fun h => absurd q (nI_ge h (by omega)))
      rw [this] at st; exact st
    · rw [e1]
      refine b_X10_readsAll_83 ?_
      have : wq n (fun _ => 1) k = 1 := if_pos (Decidable.byContradiction fun h => q (nI_le (show n ≤ k by omega) (by omega)))
      rw [this] at st; exact st
  · refine b_X10_readsAll_54 (fun _ => ?_) (fun q => absurd (nI_le (a := 10) (b := 10) (Nat.le_refl _) (by decide)) q)
    have e : cX c (fun i => if i < 10 then 0 else g0 i) (fun i => if i < 10 then wq n (fun _ => 1) i else w0 i) = cX c (fun _ => 0) (wq n (fun _ => 1)) := by
      unfold cX
      rw [ar_ext (n := 20) (f := fun i => nI (sv (fun i => if i < 10 then 0 else g0 i) (fun i => if i < 10 then wq n (fun _ => 1) i else w0 i) i)) (g := fun i => nI (sv (fun _ => 0) (wq n (fun _ => 1)) i)) (fun i hi => by
        unfold sv
        by_cases h : i < 10
        · rw [if_pos h, if_pos h]
          show nI (if i < 10 then 0 else g0 i) = nI 0
          rw [if_pos h]
        · rw [if_neg h, if_neg h]
          show nI (if i - 10 < 10 then wq n (fun _ => 1) (i - 10) else w0 (i - 10)) = _
          rw [if_pos (by omega)])]
    rw [e]; exact K
theorem LQ.z10 (L : LQ c f m p) (hz : c 70 = moL z) : LQ (up1 c 70 (moL (up1 z 10 x))) f m p := by
  obtain ⟨⟨z1, hz1, B, h15, h16, h17, h18⟩, r⟩ := L
  refine ⟨⟨up1 z1 10 x, ?_, ⟨(up1_ne _ _ (by decide)).trans B.1, (up1_ne _ _ (by decide)).trans B.2.1, B.2.2⟩, (up1_ne _ _ (by decide)).trans h15, (up1_ne _ _ (by decide)).trans h16, (up1_ne _ _ (by decide)).trans h17, fun h => (up1_ne _ _ (by decide)).trans (h18 h)⟩, r⟩
  rw [up1_same, ← moS10, ← moS10, ← hz, hz1]
theorem r_readsAll (B : BF c z m f) (hz : c 70 = moL z) (h15 : z 15 = 0) (h9 : z 9 = 1) (S : SC c) : ∃ c' b, MSE m_X10_readsAll (d + 6) [.ref 70] (hp c) (some (.int (nI (if b = true then 1 else 0)))) (hp c') ∧ RA c c' b (rtR f m p F q) := by
  have hm := B.2.2.1
  obtain ⟨p1, e1⟩ : ∃ p1, p1 = tkT f m (rd0 p) := ⟨_, rfl⟩
  obtain ⟨c1, m1, L1, K1⟩ := LQ.go0 (d := d + 3) (p := rd0 p) B hz h15 (Nat.zero_le m)
  have er1 : er p1 = 0 := by rw [e1, tkT_er]; rfl
  unfold rtR
  rw [← e1] at L1 ⊢
  have S1 := S.fk K1
  have W1 := (K1.mono K47).W
  have i0 := L1.is (d := d + 1) (t := 0) (by decide)
  obtain ⟨z1, hz1, z19⟩ := K1.zq hz (i := 9) (by decide)
  unfold rvR
  by_cases h0 : wdB f 0 p1 = true
  · rw [if_pos h0]
    obtain ⟨c2, m2, L2, K2⟩ := L1.go (d := d + 3)
    have S2 := S1.fk K2
    have W2 := (K2.mono K47).W
    obtain ⟨z2, hz2, z29⟩ := K2.zq hz1 (i := 9) (by decide)
    obtain ⟨c3, m3, K3, t3, b3⟩ := L2.reads (d := d + 2) (a := 1) (b := 10)
    have S3 := S2.fk K3
    obtain ⟨z3, hz3, z39⟩ := K3.zq hz2 (i := 9) (by decide)
    have pre : ∀ P, SW none m_X10_readsAll (d + 6) 0 0 19 [some (.ref 70), none] [] (hp c1) P → SW none m_X10_readsAll (d + 6) 0 0 0 [some (.ref 70), none] [] (hp c) P := fun P K => b_X10_readsAll_0 (mo_H hz) m1 (mo_H hz1) i0 (fun _ => K) (fun q => absurd q (wd_yes h0))
    by_cases hb : (nnR (tkT f m p1) 1 10).1 = true
    · rw [if_pos hb] at m3 ⊢
      obtain ⟨L3, zt, hzt, z21⟩ := t3 hb
      obtain ⟨v1, v2, v3, v4, v5⟩ := vn_in1 hb
      obtain ⟨n', en⟩ : ∃ n', n' = vn (tkT f m p1) := ⟨_, rfl⟩
      rw [← en] at v3 v4 v5 ⊢
      have f21 : (moL z3)[21]? = some (.int (nI n')) := by
        rw [← hz3, hzt, ← v5, ← z21]; rfl
      have L4 := L3.z10 (x := nI n') hz3
      have e4 : (hp c3).set 70 (10, (moL z3).set 10 (.int (nI n'))) = hp (up1 c3 70 (moL (up1 z3 10 (nI n')))) := by rw [moS10, hp_set (by decide) (by decide)]
      obtain ⟨c4, hc4⟩ : ∃ c4, c4 = up1 c3 70 (moL (up1 z3 10 (nI n'))) := ⟨_, rfl⟩
      have W4 : RK8 c3 c4 := by rw [hc4]; exact RK8.F10 hz3
      have hz4 : c4 70 = moL (up1 z3 10 (nI n')) := by rw [hc4]; exact up1_same _ _ _
      have S4 : SC c4 := S3.same (fun i hi => by rw [hc4]; exact up1_ne _ _ (by omega))
      rw [← hc4] at L4 e4
      obtain ⟨c5, m5, K5, t5, b5⟩ := L4.ends (d := d + 2)
      obtain ⟨z5, hz5, hz5'⟩ := K5.2 _ hz4
      have z510 : z5 10 = nI n' := (hz5' 10 (by decide)).trans (up1_same _ _ _)
      have z59 : z5 9 = 1 := (hz5' 9 (by decide)).trans ((up1_ne _ _ (by decide)).trans (z39.trans (z29.trans (z19.trans h9))))
      have S5 := S4.fk K5
      have WW := (((W1.tr W2).tr K3.W).tr W4).tr K5.W
      have p35 : ∀ P, SW none m_X10_readsAll (d + 6) 0 0 35 [some (.ref 70), none] [] (hp c3) P → SW none m_X10_readsAll (d + 6) 0 0 0 [some (.ref 70), none] [] (hp c) P := fun P K => pre P (b_X10_readsAll_19 (mo_H hz1) m2 (mo_H hz2) m3 (fun _ => K) (fun q => absurd q (by decide)))
      have ok4 := ok400 hm L3.2.1
      by_cases hn : (enR f m (tkT f m (tkT f m p1))).1 = true
      · rw [if_pos hn] at m5
        have L5 := t5 hn
        obtain ⟨o, ho⟩ := S5.1
        rw [sv_any] at ho
        have G6 : LF (cX c5 (fun _ => 0) (wq n' (fun _ => 1))) (n', (fun _ => 0), (fun _ => 1)) := ⟨⟨z5, (up1_ne _ _ (by decide)).trans hz5, z59, z510⟩, up1_same _ _ _, v3, v4, FOR.nil, fun _ => (by decide : 1 ≤ 99)⟩
        have L6 : LQ (cX c5 (fun _ => 0) (wq n' (fun _ => 1))) f m (enR f m (tkT f m (tkT f m p1))).2 := L5.off (by decide)
        have S6 : SC (cX c5 (fun _ => 0) (wq n' (fun _ => 1))) := S5.r72
        have e6 : er (enR f m (tkT f m (tkT f m p1))).2 = 0 := ((enR_eg ok4).1 hn).trans (tkT_er.trans (tkT_er.trans er1))
        have bd : m < (enR f m (tkT f m (tkT f m p1))).2.2.1 + 400 := by
          have hn2 := hn
          unfold enR at hn2 ⊢
          by_cases h3 : (tkT f m (tkT f m p1)).2.2.1 = 3
          · rw [if_pos h3]
            have h4 : (tkT f m p1).2.1 < (tkT f m (tkT f m p1)).2.1 := (tkT_em (f := f) (p0 := tkT f m p1) (Nat.le_refl _) L2.2.1.2).2 (by omega)
            have h5 : (tkT f m (tkT f m p1)).2.1 ≤ (tkT f m (tkT f m (tkT f m p1))).2.1 := (tkT_em (f := f) (p0 := tkT f m (tkT f m p1)) (Nat.le_refl _) L3.2.1.2).1
            show m < (tkT f m (tkT f m (tkT f m p1))).2.1 + 400
            omega
          · rw [if_neg h3] at hn2; cases hn2
        obtain ⟨c7, b7, s7, r7⟩ := LQ.lp (d := d) hm 400 _ _ q _ L6 G6 S6 e6 bd
        rw [hn]
        refine ⟨c7, b7, e_X10_readsAll (p35 _ (b_X10_readsAll_35 (mo_H hz3) f21 (mo_H hz3) (by show 10 < 27; decide) (by rw [e4]; exact mo_H hz4) (by rw [e4]; exact m5) (fun _ => LQ.clr hz5 z510 v4 ho s7) (fun q => absurd q (by decide)))), RA.of (WW.tr (RK8.up (by decide))) r7⟩
      · have hn := Bool.eq_false_iff.mpr hn
        rw [hn] at m5 ⊢
        rw [rtU_f]
        exact ⟨c5, false, e_X10_readsAll (p35 _ (b_X10_readsAll_35 (mo_H hz3) f21 (mo_H hz3) (by show 10 < 27; decide) (by rw [e4]; exact mo_H hz4) (by rw [e4]; exact m5) (fun q => absurd rfl q) (fun _ => b_X10_readsAll_50 ⟨rfl, rfl⟩))), WW, S5, fun h => (by cases h), fun _ => ⟨(enR_eg ok4).2 hn, b5 hn⟩⟩
    · rw [if_neg hb] at m3 ⊢
      rw [rtU_f]
      exact ⟨c3, false, e_X10_readsAll (pre _ (b_X10_readsAll_19 (mo_H hz1) m2 (mo_H hz2) m3 (fun q => absurd rfl q) (fun _ => b_X10_readsAll_33 ⟨rfl, rfl⟩))), (W1.tr W2).tr K3.W, S3, fun h => (by cases h), fun _ => ⟨(nnR_eg (ok400 hm L2.2.1)).2 (Bool.eq_false_iff.mpr hb), b3 (Bool.eq_false_iff.mpr hb)⟩⟩
  · rw [if_neg h0]
    obtain ⟨c2, m2, K2, E2⟩ := L1.bad (d := d + 5) (x := 1)
    rw [rtU_f]
    exact ⟨c2, false, e_X10_readsAll (b_X10_readsAll_0 (mo_H hz) m1 (mo_H hz1) i0 (fun q => absurd (wd_no h0) q) (fun _ => b_X10_readsAll_13 (mo_H hz1) m2 (by decide) ⟨rfl, rfl⟩)), W1.tr K2.W, S1.fk K2, fun h => (by cases h), fun _ => ⟨fl_ne (k := 1) (by decide) (by decide) (ok400 hm L1.2.1), E2⟩⟩
end
