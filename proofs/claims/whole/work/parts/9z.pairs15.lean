section
variable {d m n t k : Nat} {c c' : Nat → List Value} {z : Nat → Int32} {g w g1 w1 : Nat → Nat} {x y u : Int32}
variable {nx ch kp im om : Nat} {Hg Hw Sg Sw : Nat → Nat → Nat} {a a1 fi fo : Nat → Int32}
theorem p_fromRank (I : INV c) : PAIR m_X9_fromRank m_X10_fromRank (d + 20) [.int x] (fun e => if e = 2 then 1 else 0) c := by
  obtain ⟨n, g, w, nx, ch, kp, Hg, Hw, Sg, Sw, a, im, fi, om, fo, S, M, Dt⟩ := I
  have N := S.1.1
  have F := M.1.F
  have hn := N.le
  have A := S.2.2.2.1
  have hpw := pow_trees n hn
  cases hx : isV (n ^ (n - 2)) x with
  | false =>
    refine px S M Dt (t_fromRankX (d := d + 15) N ?_) (q_fromRankX (d := d + 16) M.1 hx) (by decide)
    rcases pk_ix x (n := n ^ (n - 2)) (by omega) with e | e | ⟨j, hj, e⟩
    · exact Or.inl e
    · exact Or.inr (Int32.not_lt.mpr e)
    · exact absurd e (isV_no hx j hj)
  | true =>
    obtain ⟨r, hr, rfl⟩ := isV_of hx
    obtain ⟨q, B⟩ := S.1.2.2.1
    have hnx := S.2.1.2.2.1
    have FR := (rkT_F (r := r) N.one hn).1
    have m9 := t_fromRank (d := d + 15) N S.R5 A B hr (fun i hi => by rw [srQ_all hi]; exact rkD_lt N.one)
    rw [plT_rk] at m9
    have er : ∀ j, j ≠ 55 → j ≠ 57 + nx → cR c nx ch kp g w j = c j := fun j h1 h2 => (up1_ne _ _ h1).trans (up1_ne _ _ h2)
    have e : ∀ j, j ≠ 12 → j ≠ 18 → j ≠ 69 → cA (up1 (up1 (cR c nx ch kp g w) 18 (ar 10 (fun i => nI (srQ n r q (n - 2) i)))) 12 (ar 10 (fun i => nI (rkT n r i)))) a 4 j = cR c nx ch kp g w j := fun j h1 h2 h3 => (up1_ne _ _ h3).trans ((up1_ne _ _ h1).trans (up1_ne _ _ h2))
    refine pch M m9 (c0_chg S (fun j h1 h2 h3 h4 h5 h6 h7 => (e j h2 h4 h7).trans (er j h5 h6)) ((up1_ne _ _ (by decide)).trans (up1_same _ _ _)) ((e 13 (by decide) (by decide) (by decide)).trans ((er 13 (by decide) (by omega)).trans N.2.2.2.1)) ⟨_, (up1_ne _ _ (by decide)).trans ((up1_ne _ _ (by decide)).trans (up1_same _ _ _))⟩ ((e 55 (by decide) (by decide) (by decide)).trans (up1_same _ _ _)) ((e _ (by omega) (by omega) (by omega)).trans ((up1_ne _ _ (by omega)).trans (up1_same _ _ _))) (up1_same _ _ _) FR.1.1) (fun j hj => (e j (by omega) (by omega) (by omega)).trans (er j (by omega) (by omega))) (Dt.chg F Dt.1) (fun R X => ?_)
    have := q_fromRank (d := d + 16) R X hr
    rw [wq_shH, wq_fre hn] at this
    exact this
theorem p_nextTree (I : INV c) : PAIR m_X9_nextTree m_X10_nextTree (d + 20) [] (fun _ => 0) c := by
  obtain ⟨n, g, w, nx, ch, kp, Hg, Hw, Sg, Sw, a, im, fi, om, fo, S, M, Dt⟩ := I
  have N := S.1.1
  have F := M.1.F
  have hn := N.le
  have A := S.2.2.2.1
  have he := Nat.le_of_lt (ed_lt F N.one hn)
  obtain ⟨q, B⟩ := S.1.2.2.1
  by_cases T : TR g n
  · have h1 := (tr_iff F hn N.one).mpr T
    have ok := tk_ok F hn T
    have hlt := rk_tk F.1 N.one
    by_cases hr : rk n (tkN g n) (n - 2) + 1 = n ^ (n - 2)
    · exact pch M (t_nextTreeL (d := d + 15) N A B h1 he ok hr) (c0_cA S.cd) (fun j hj => (up1_ne _ _ (by omega)).trans (up1_ne _ _ (by omega))) Dt (fun R X => q_nextTreeL (d := d + 16) R X T hr)
    · obtain ⟨r, hrk⟩ : ∃ r, rk n (tkN g n) (n - 2) + 1 = r := ⟨_, rfl⟩
      have hr2 : r < n ^ (n - 2) := by omega
      have hnx := S.2.1.2.2.1
      have FR := (rkT_F (r := r) N.one hn).1
      have m9 := t_nextTree (d := d + 15) N S.R5 A B h1 he ok hrk hr2 (fun i hi => by rw [srQ_all hi]; exact rkD_lt N.one)
      rw [plT_rk] at m9
      obtain ⟨q1, hq1⟩ : ∃ q1, tkQ g n q (n - 2) = q1 := ⟨_, rfl⟩
      rw [hq1] at m9
      have er : ∀ j, j ≠ 18 → j ≠ 55 → j ≠ 57 + nx → cR (up1 c 18 (ar 10 (fun i => nI (q1 i)))) nx ch kp g w j = c j := fun j h0 h1 h2 => (up1_ne _ _ h1).trans ((up1_ne _ _ h2).trans (up1_ne _ _ h0))
      have e : ∀ j, j ≠ 12 → j ≠ 18 → j ≠ 69 → cA (up1 (up1 (cR (up1 c 18 (ar 10 (fun i => nI (q1 i)))) nx ch kp g w) 18 (ar 10 (fun i => nI (srQ n r q1 (n - 2) i)))) 12 (ar 10 (fun i => nI (rkT n r i)))) a 4 j = cR (up1 c 18 (ar 10 (fun i => nI (q1 i)))) nx ch kp g w j := fun j h1 h2 h3 => (up1_ne _ _ h3).trans ((up1_ne _ _ h1).trans (up1_ne _ _ h2))
      refine pch M m9 (c0_chg S (fun j h1 h2 h3 h4 h5 h6 h7 => (e j h2 h4 h7).trans (er j h4 h5 h6)) ((up1_ne _ _ (by decide)).trans (up1_same _ _ _)) ((e 13 (by decide) (by decide) (by decide)).trans ((er 13 (by decide) (by decide) (by omega)).trans N.2.2.2.1)) ⟨_, (up1_ne _ _ (by decide)).trans ((up1_ne _ _ (by decide)).trans (up1_same _ _ _))⟩ ((e 55 (by decide) (by decide) (by decide)).trans (up1_same _ _ _)) ((e _ (by omega) (by omega) (by omega)).trans ((up1_ne _ _ (by omega)).trans (up1_same _ _ _))) (up1_same _ _ _) FR.1.1) (fun j hj => (e j (by omega) (by omega) (by omega)).trans (er j (by omega) (by omega) (by omega))) (Dt.chg F Dt.1) (fun R X => ?_)
      have := q_nextTree (d := d + 16) R X T hrk hr2
      rw [wq_shH] at this
      exact this
  · have h1 : n - ed g n ≠ 1 := fun e => T ((tr_iff F hn N.one).mp e)
    exact pch M (t_nextTreeN (d := d + 15) N A h1 he) (c0_cA S) (fun j hj => up1_ne _ _ (by omega)) Dt (fun R X => q_nextTreeN (d := d + 16) R X T)
/-- a load refused: only the reader changes -/
theorem c0_rd {m : Nat} (S : C0 c n g w nx ch kp Hg Hw Sg Sw a im fi om fo) (h : ∀ i, i ≠ 1 → i ≠ 2 → i ≠ 4 → i ≠ 5 → i ≠ 6 → i ≠ 8 → c' i = c i) (h2 : c' 2 = [.ref 3, .int (nI m)]) (hm : m ≤ 400) (hR : ∃ p F q, RD c' p F q ∧ FS F ∧ 1 ≤ F.1) : C0 c' n g w nx ch kp Hg Hw Sg Sw a m fi om fo := by
  have I := S.2.2.2.2.2.1
  have O := S.2.2.2.2.1
  exact S.io (h 0 (by decide) (by decide) (by decide) (by decide) (by decide) (by decide)) (fun i h1 h2 => h i (by omega) (by omega) (by omega) (by omega) (by omega) (by omega)) ⟨(h 9 (by decide) (by decide) (by decide) (by decide) (by decide) (by decide)).trans O.1, (h 10 (by decide) (by decide) (by decide) (by decide) (by decide) (by decide)).trans O.2.1, O.2.2⟩ ⟨h2, (h 3 (by decide) (by decide) (by decide) (by decide) (by decide) (by decide)).trans I.2.1, (h 7 (by decide) (by decide) (by decide) (by decide) (by decide) (by decide)).trans I.2.2.1, hm⟩ hR
/-- .. and a load that is taken: everything begins anew -/
theorem c0_new (S : C0 c n g w nx ch kp Hg Hw Sg Sw a im fi om fo) (h : ∀ i, i < 70 → i ≠ 11 → i ≠ 12 → i ≠ 13 → i ≠ 55 → i ≠ 69 → c' i = c i) {n1 : Nat} (N : NB c' n1 g1 w1) (h55 : c' 55 = paL nx 0 0) (h69 : c' 69 = ar 10 a1) {Hg1 Hw1 Sg1 Sw1 : Nat → Nat → Nat} : C0 c' n1 g1 w1 nx 0 0 Hg1 Hw1 Sg1 Sw1 a1 im fi om fo := by
  obtain ⟨⟨-, ⟨n2, g2, w2, P⟩, ⟨q, B⟩, ⟨kw, V, W, x1, x2, x3, x4, x5⟩, ⟨P', R', S', K⟩, SV, AN⟩, ⟨p1, p2, p3, p4, p5, p6⟩, ⟨s1, s2, s3, s4⟩, A, O, I, p, F, q2, ⟨r1, r2, r3, r4, r5⟩, r6⟩ := S
  have h' : ∀ i, i < 70 ∧ i ≠ 11 ∧ i ≠ 12 ∧ i ≠ 13 ∧ i ≠ 55 ∧ i ≠ 69 → c' i = c i := fun i hi => h i hi.1 hi.2.1 hi.2.2.1 hi.2.2.2.1 hi.2.2.2.2.1 hi.2.2.2.2.2
  refine ⟨⟨N, ⟨n2, g2, w2, (h' 14 (by omega)).trans P.1, (h' 15 (by omega)).trans P.2.1, (h' 16 (by omega)).trans P.2.2.1, P.2.2.2⟩, ⟨q, (h' 17 (by omega)).trans B.1, (h' 18 (by omega)).trans B.2⟩, ⟨kw, V, W, (h' 19 (by omega)).trans x1, (h' 25 (by omega)).trans x2, x3, fun i hi => (h' _ ?_).trans (x4 i hi), x5⟩, ⟨P', R', S', (h' 27 (by omega)).trans K.1, (h' 28 (by omega)).trans K.2.1, (h' 29 (by omega)).trans K.2.2.1, (h' 30 (by omega)).trans K.2.2.2⟩, SV.off (fun i hi => h' i (by omega)), fun i hi => ?_⟩, ⟨h55, (h' 56 (by omega)).trans p2, p3, by decide, fun i hi => ?_, fun j hj => absurd hj (Nat.not_lt_zero j)⟩, ⟨by decide, (h' 65 (by omega)).trans s2, fun t ht => ?_, fun t ht hb => ?_⟩, h69, ⟨(h' 9 (by omega)).trans O.1, (h' 10 (by omega)).trans O.2.1, O.2.2⟩, ⟨(h' 2 (by omega)).trans I.1, (h' 3 (by omega)).trans I.2.1, (h' 7 (by omega)).trans I.2.2.1, I.2.2.2⟩, p, F, q2, ⟨(h' 1 (by omega)).trans r1, (h' 4 (by omega)).trans r2, (h' 5 (by omega)).trans r3, (h' 6 (by omega)).trans r4, (h' 8 (by omega)).trans r5⟩, r6⟩
  · unfold wA; split <;> omega
  · obtain ⟨A1, b1, b2⟩ := AN i hi
    exact ⟨A1, (h' _ (by omega)).trans b1, b2⟩
  · obtain ⟨q, e2⟩ := p5 i hi
    exact ⟨q, (h' _ (by omega)).trans e2⟩
  · obtain ⟨q, e2⟩ := s3 t ht
    exact ⟨q, (h' _ (by omega)).trans e2⟩
  · rw [Nat.zero_testBit] at hb; cases hb
/-- the pair of a load -/
theorem pld {M9 M10 : ab_M} {D : Nat} {as : List Value} {kind : Nat → Nat} {v : Value} {c1 : Nat → List Value} {n1 nx1 ch1 kp1 : Nat} {Hg1 Hw1 Sg1 Sw1 : Nat → Nat → Nat} (M : M0 c n g w ch kp Hg Hw Sg Sw a im fi om fo) (m9 : MSE M9 D (.ref 0 :: as) (hp c) (some v) (hp c1)) (S1 : C0 c1 n1 g1 w1 nx1 ch1 kp1 Hg1 Hw1 Sg1 Sw1 a1 0 fi om fo) (fr : ∀ i, 69 < i → c1 i = c i) (Dt : D0 n1 w1 ch1 kp1 Hg1 Hw1 Sg1 Sw1) (m10 : ∀ {c1 : Nat → List Value}, RF c1 n g (wq n w) → HF c1 ch kp Hg (fun j => wq n (Hw j)) Sg (fun s => wq n (Sw s)) a → IF c1 im fi → ∃ c2, MSE M10 D (.ref 70 :: as) (hp c1) (some v) (hp c2) ∧ RF c2 n1 g1 (wq n1 w1) ∧ HF c2 ch1 kp1 Hg1 (fun j => wq n1 (Hw1 j)) Sg1 (fun s => wq n1 (Sw1 s)) a1 ∧ LD c1 c2) (hv : vt M10 v := by trivial) : PAIR M9 M10 D as kind c := by
  refine Or.inl ⟨c1, v, m9, hv, fr, fun c1' h => ?_⟩
  have M1 : M0 c1' n g w ch kp Hg Hw Sg Sw a im fi om fo := M.cls (fun i h1 h2 => (h i h2).trans (fr i h1))
  obtain ⟨R, X, I, o1, f2, o2, o3⟩ := M1
  obtain ⟨c2, m, R2, X2, C⟩ := m10 R X I
  obtain ⟨z, hz, -⟩ := R.Z
  obtain ⟨z', hz', z0, z13, z24⟩ := C.2 z hz
  refine ⟨c2, m, ⟨z', hz', z0⟩, ⟨n1, g1, w1, nx1, ch1, kp1, Hg1, Hw1, Sg1, Sw1, a1, 0, fi, om, fo, (S1.same (fun i hi => h i (by omega))).same (fun i hi => C.1 i (Or.inl hi)), ⟨R2, X2, ⟨⟨z', hz', z13⟩, (C.1 77 (by unfold fr70; decide)).trans I.2.1, by decide, I.2.2.2⟩, fun z2 hz2 => ?_, f2, (C.1 79 (by unfold fr70; decide)).trans o2, o3⟩, Dt⟩, fun i hi => C.1 i (Or.inr (Or.inr (Or.inr hi)))⟩
  have e : moL z2 = moL z' := hz2.symm.trans hz'
  have := congrArg (fun l : List Value => l[24]?) e
  have e2 : z2 24 = z' 24 := by simpa [moL] using this
  rw [e2, z24]
  exact o1 z hz
theorem p_load (I : INV c) : PAIR m_X9_load m_X10_load (d + 20) [] (fun _ => 0) c := by
  obtain ⟨n, g, w, nx, ch, kp, Hg, Hw, Sg, Sw, a, im, fi, om, fo, S, M, Dt⟩ := I
  have N := S.1.1
  have K := S.2.2.2.2.2.1
  obtain ⟨p, F, q, R, hF, h1⟩ := S.2.2.2.2.2.2
  have J : RJ im (rtR fi im p F q).1 (rtR fi im p F q).2.1 := rtU_J (f := fi) (m := im) 400 (rvR fi im (tkT fi im (rd0 p)) F).1 (rvR fi im (tkT fi im (rd0 p)) F).2.1 (rvR fi im (tkT fi im (rd0 p)) F).2.2 q (rvR_J (rd0_J hF h1))
  have fr : ∀ i, i ≠ 1 → i ≠ 2 → i ≠ 4 → i ≠ 5 → i ≠ 6 → i ≠ 8 → cL c fi im p F q i = c i := fun i a1 a2 a3 a4 a5 a6 => (up1_ne _ _ a2).trans (hR_ne ⟨a1, a3, a4, a5, a6⟩)
  have SL : C0 (cL c fi im p F q) n g w nx ch kp Hg Hw Sg Sw a 0 fi om fo := c0_rd S fr (up1_same _ _ _) (by decide) ⟨(rtR fi im p F q).1, (rtR fi im p F q).2.1, (rtR fi im p F q).2.2, ⟨rfl, rfl, rfl, rfl, rfl⟩, J.2.2.1, J.2.2.2⟩
  have frl : ∀ i, 69 < i → cL c fi im p F q i = c i := fun i hi => fr i (by omega) (by omega) (by omega) (by omega) (by omega) (by omega)
  by_cases he : er (rtR fi im p F q).1 = 0
  · obtain ⟨c', -, R', -, -, h99⟩ := q_load (d := d) (p := p) (F := F) (q := q) M.1 M.2.1 M.2.2.1 he
    have F' := R'.F
    have NN : NB (cM (cL c fi im p F q) (rtR fi im p F q).2.1 nx) (rtR fi im p F q).2.1.1 (rtR fi im p F q).2.1.2.1 (rtR fi im p F q).2.1.2.2 := ⟨(up1_ne _ _ (by decide)).trans ((up1_ne _ _ (by decide)).trans ((up1_ne _ _ (by decide)).trans ((up1_ne _ _ (by decide)).trans ((up1_ne _ _ (by decide)).trans SL.1.1.1)))), rfl, rfl, rfl, J.2.2.2, J.2.2.1.1, F'.1.1⟩
    have fm : ∀ i, i ≠ 11 → i ≠ 12 → i ≠ 13 → i ≠ 55 → i ≠ 69 → cM (cL c fi im p F q) (rtR fi im p F q).2.1 nx i = cL c fi im p F q i := fun i a1 a2 a3 a4 a5 => (up1_ne _ _ a5).trans ((up1_ne _ _ a4).trans ((up1_ne _ _ a3).trans ((up1_ne _ _ a2).trans (up1_ne _ _ a1))))
    refine pld M (t_load (d := d + 13) N K R hF h1 he S.2.1.1 S.2.2.2.1 F'.1.1) (c0_new (Hg1 := Hg) (Hw1 := Hw) (Sg1 := Sg) (Sw1 := Sw) SL (fun i _ b1 b2 b3 b4 b5 => fm i b1 b2 b3 b4 b5) NN ((up1_ne _ _ (by decide)).trans (up1_same _ _ _)) (up1_same _ _ _)) (fun i hi => (fm i (by omega) (by omega) (by omega) (by omega) (by omega)).trans (frl i hi)) ⟨h99, fun j hj => absurd hj (Nat.not_lt_zero j), fun s _ hb => by rw [Nat.zero_testBit] at hb; cases hb⟩ (fun R1 X1 I1 => ?_)
    obtain ⟨c2, m2, R2, X2, L2, -⟩ := q_load (d := d + 13) (p := p) (F := F) (q := q) R1 X1 I1 he
    refine ⟨c2, m2, R2, ?_, L2⟩
    obtain ⟨b1, b2, b3, ⟨f3, b4, b5⟩, ⟨f4, b6, b7⟩, b8⟩ := X2
    exact ⟨b1, b2, b3, ⟨f3, b4, fun j i hj => absurd hj (Nat.not_lt_zero j)⟩, ⟨f4, b6, fun s i _ hb => by rw [Nat.zero_testBit] at hb; cases hb⟩, b8⟩
  · exact pld M (t_load0 (d := d + 13) N K R hF h1 he) SL frl Dt (fun R1 X1 I1 => q_load0 (d := d + 13) R1 X1 I1 he)
end
