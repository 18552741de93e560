section
variable {d m n t k : Nat} {c c' : Nat → List Value} {z : Nat → Int32} {g w g1 w1 : Nat → Nat} {x y u : Int32}
variable {nx ch kp im om : Nat} {Hg Hw Sg Sw : Nat → Nat → Nat} {a a1 fi fo : Nat → Int32}
theorem c0_acc (S : C0 c n g w nx ch kp Hg Hw Sg Sw a im fi om fo) (h : ∀ i, i < 69 → c' i = c i) (h69 : c' 69 = ar 10 a1) : C0 c' n g w nx ch kp Hg Hw Sg Sw a1 im fi om fo := by
  obtain ⟨⟨N, ⟨n2, g2, w2, P⟩, ⟨q, B⟩, ⟨kw, V, W, x1, x2, x3, x4, x5⟩, ⟨P', R', S', K⟩, SV, AN⟩, ⟨p1, p2, p3, p4, p5, p6⟩, ⟨s1, s2, s3, s4⟩, A, O, I, p, F, q2, ⟨r1, r2, r3, r4, r5⟩, r6⟩ := S
  refine ⟨⟨⟨(h 0 (by decide)).trans N.1, (h 11 (by decide)).trans N.2.1, (h 12 (by decide)).trans N.2.2.1, (h 13 (by decide)).trans N.2.2.2.1, N.2.2.2.2⟩, ⟨n2, g2, w2, (h 14 (by decide)).trans P.1, (h 15 (by decide)).trans P.2.1, (h 16 (by decide)).trans P.2.2.1, P.2.2.2⟩, ⟨q, (h 17 (by decide)).trans B.1, (h 18 (by decide)).trans B.2⟩, ⟨kw, V, W, (h 19 (by decide)).trans x1, (h 25 (by decide)).trans x2, x3, fun i hi => (h _ ?_).trans (x4 i hi), x5⟩, ⟨P', R', S', (h 27 (by decide)).trans K.1, (h 28 (by decide)).trans K.2.1, (h 29 (by decide)).trans K.2.2.1, (h 30 (by decide)).trans K.2.2.2⟩, SV.off (fun i hi => h i (by omega)), fun i hi => ?_⟩, ⟨(h 55 (by decide)).trans p1, (h 56 (by decide)).trans p2, p3, p4, fun i hi => ?_, fun j hj => (h _ ?_).trans (p6 j hj)⟩, ⟨s1, (h 65 (by decide)).trans s2, fun s hs => ?_, fun s hs hb => (h _ (by omega)).trans (s4 s hs hb)⟩, h69, ⟨(h 9 (by decide)).trans O.1, (h 10 (by decide)).trans O.2.1, O.2.2⟩, ⟨(h 2 (by decide)).trans I.1, (h 3 (by decide)).trans I.2.1, (h 7 (by decide)).trans I.2.2.1, I.2.2.2⟩, p, F, q2, ⟨(h 1 (by decide)).trans r1, (h 4 (by decide)).trans r2, (h 5 (by decide)).trans r3, (h 6 (by decide)).trans r4, (h 8 (by decide)).trans r5⟩, r6⟩
  · unfold wA; split <;> omega
  · obtain ⟨A1, b1, b2⟩ := AN i hi
    exact ⟨A1, (h _ (by omega)).trans b1, b2⟩
  · obtain ⟨q, e⟩ := p5 i hi
    exact ⟨q, (h _ (by omega)).trans e⟩
  · omega
  · obtain ⟨q, e⟩ := s3 s hs
    exact ⟨q, (h _ (by omega)).trans e⟩
theorem c0_cA (S : C0 c n g w nx ch kp Hg Hw Sg Sw a im fi om fo) {i : Nat} : C0 (cA c a i) n g w nx ch kp Hg Hw Sg Sw (up1 a i (a i + 1)) im fi om fo := c0_acc S (fun i hi => up1_ne _ _ (by omega)) (up1_same _ _ _)
/-- a change of the edges, counted -/
theorem c0_ed (S : C0 c n g w nx ch kp Hg Hw Sg Sw a im fi om fo) (hg1 : ∀ i, g1 i < 2 ^ n) {i : Nat} : C0 (cA (up1 (cR c nx ch kp g w) 12 (ar 10 (fun i => nI (g1 i)))) a i) n g1 w ((nx + 1) % 8) (min (ch + 1) 8) kp (shH Hg g) (shH Hw w) Sg Sw (up1 a i (a i + 1)) im fi om fo := by
  have hnx := S.2.1.2.2.1
  have e : ∀ j, j ≠ 12 → j ≠ 69 → cA (up1 (cR c nx ch kp g w) 12 (ar 10 (fun i => nI (g1 i)))) a i j = cR c nx ch kp g w j := fun j h1 h2 => (up1_ne _ _ h2).trans (up1_ne _ _ h1)
  have er : ∀ j, j ≠ 55 → j ≠ 57 + nx → cR c nx ch kp g w j = c j := fun j h1 h2 => (up1_ne _ _ h1).trans (up1_ne _ _ h2)
  obtain ⟨q, B⟩ := S.1.2.2.1
  exact c0_chg S (fun j h1 h2 h3 h4 h5 h6 h7 => (e j h2 h7).trans (er j h5 h6)) ((up1_ne _ _ (by decide)).trans (up1_same _ _ _)) ((e 13 (by decide) (by decide)).trans ((er 13 (by decide) (by omega)).trans S.1.1.2.2.2.1)) ⟨q, (e 18 (by decide) (by decide)).trans ((er 18 (by decide) (by omega)).trans B.2)⟩ ((e 55 (by decide) (by decide)).trans (up1_same _ _ _)) ((e _ (by omega) (by omega)).trans ((up1_ne _ _ (by omega)).trans (up1_same _ _ _))) (up1_same _ _ _) hg1
theorem cE_fr (hnx : nx < 8) {i j : Nat} (hj : 69 < j) : cA (up1 (cR c nx ch kp g w) 12 (ar 10 (fun i => nI (g1 i)))) a i j = c j := by
  refine (up1_ne _ _ (by omega)).trans ((up1_ne _ _ (by omega)).trans ((up1_ne _ _ (by omega)).trans (up1_ne _ _ (by omega))))
theorem p_link (I : INV c) : PAIR m_X9_link m_X10_link (d + 20) [.int x, .int y] (fun e => if e = 1 then 1 else 0) c := by
  obtain ⟨n, g, w, nx, ch, kp, Hg, Hw, Sg, Sw, a, im, fi, om, fo, S, M, Dt⟩ := I
  have N := S.1.1
  have F := M.1.F
  have hn := N.le
  have A := S.2.2.2.1
  cases hx : isV n x with
  | false => exact px S M Dt (t_linkX1 (d := d + 16) N (isV_no hx)) (q_linkX (d := d + 17) M.1 (Or.inl hx)) (by decide)
  | true =>
    obtain ⟨v, hv, rfl⟩ := isV_of hx
    cases hy : isV n y with
    | false => exact px S M Dt (t_linkX2 (d := d + 16) N hv (isV_no hy)) (q_linkX (d := d + 17) M.1 (Or.inr hy)) (by decide)
    | true =>
      obtain ⟨b, hb, rfl⟩ := isV_of hy
      by_cases h0 : wy g n v b = 0
      · have h00 := h0
        unfold wy at h00
        by_cases e1 : v = b
        · rw [if_pos e1] at h00; cases h00
        · rw [if_neg e1] at h00
          by_cases e2 : (g v).testBit b = true
          · rw [if_pos e2] at h00; cases h00
          · rw [if_neg e2] at h00
            by_cases e3 : ds g n v b = none
            · have FJ : FOR (jn g v b) n := F.jnF hv hb (fun h => by
                obtain ⟨r, e⟩ := (ds_cn F.1 hn hv).mp h
                rw [e3] at e; cases e)
              refine pch M (tx_link (d := d + 16) N S.R5 A hv hb e1 (Bool.eq_false_iff.mpr e2) e3) (c0_ed S FJ.1.1) (fun j hj => cE_fr S.2.1.2.2.1 hj) (Dt.chg F Dt.1) (fun R X => ?_)
              have := q_link (d := d + 15) R X hv hb h0 FJ
              rw [wq_shH] at this
              exact this
            · rw [if_neg e3] at h00; cases h00
      · exact pch M (t_link0 (d := d + 16) N A hv hb rfl h0) (c0_cA S) (fun j hj => up1_ne _ _ (by omega)) Dt (fun R X => q_link0 (d := d + 15) R X hv hb rfl h0)
theorem p_cut (I : INV c) : PAIR m_X9_cut m_X10_cut (d + 20) [.int x, .int y] (fun e => if e = 1 then 1 else 0) c := by
  obtain ⟨n, g, w, nx, ch, kp, Hg, Hw, Sg, Sw, a, im, fi, om, fo, S, M, Dt⟩ := I
  have N := S.1.1
  have F := M.1.F
  have A := S.2.2.2.1
  cases hx : isV n x with
  | false => exact px S M Dt (t_cutX1 (d := d + 16) N (isV_no hx)) (q_cutX (d := d + 17) M.1 (Or.inl hx)) (by decide)
  | true =>
    obtain ⟨v, hv, rfl⟩ := isV_of hx
    cases hy : isV n y with
    | false => exact px S M Dt (t_cutX2 (d := d + 16) N hv (isV_no hy)) (q_cutX (d := d + 17) M.1 (Or.inr hy)) (by decide)
    | true =>
      obtain ⟨b, hb, rfl⟩ := isV_of hy
      cases h0 : (g v).testBit b with
      | true =>
        refine pch M (t_cut (d := d + 16) N S.R5 A hv hb h0) (c0_ed S F.ptF.1.1) (fun j hj => cE_fr S.2.1.2.2.1 hj) (Dt.chg F Dt.1) (fun R X => ?_)
        have := q_cut (d := d + 17) R X hv hb h0
        rw [wq_shH] at this
        exact this
      | false => exact pch M (t_cut0 (d := d + 16) N A hv hb h0) (c0_cA S) (fun j hj => up1_ne _ _ (by omega)) Dt (fun R X => q_cut0 (d := d + 17) R X hv hb h0)
end
