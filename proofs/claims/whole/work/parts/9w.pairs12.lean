section
variable {d m n t k : Nat} {c c' : Nat → List Value} {z : Nat → Int32} {g w g1 w1 : Nat → Nat} {x y u : Int32}
variable {nx ch kp im om : Nat} {Hg Hw Sg Sw : Nat → Nat → Nat} {a a1 fi fo : Nat → Int32}
/-- the last record comes back -/
theorem c0_back (S : C0 c n g w nx (ch + 1) kp Hg Hw Sg Sw a im fi om fo) (h' : ∀ i, i < 70 ∧ i ≠ 12 ∧ i ≠ 13 ∧ i ≠ 55 → c' i = c i) (h12 : c' 12 = ar 10 (fun i => nI (g1 i))) (h13 : c' 13 = ar 10 (fun i => nI (w1 i))) (h55 : c' 55 = paL ((nx + 7) % 8) ch kp) (hg1 : ∀ i, g1 i < 2 ^ n) : C0 c' n g1 w1 ((nx + 7) % 8) ch kp (fun j => Hg (j + 1)) (fun j => Hw (j + 1)) Sg Sw a im fi om fo := by
  obtain ⟨⟨N, ⟨n2, g2, w2, P⟩, ⟨q, B⟩, ⟨kw, V, W, x1, x2, x3, x4, x5⟩, ⟨P', R', S', K⟩, SV, AN⟩, ⟨p1, p2, p3, p4, p5, p6⟩, ⟨s1, s2, s3, s4⟩, A, O, I, p, F, q2, ⟨r1, r2, r3, r4, r5⟩, r6⟩ := S
  refine ⟨⟨⟨(h' 0 (by decide)).trans N.1, (h' 11 (by decide)).trans N.2.1, h12, h13, N.2.2.2.2.1, N.2.2.2.2.2.1, hg1⟩, ⟨n2, g2, w2, (h' 14 (by decide)).trans P.1, (h' 15 (by decide)).trans P.2.1, (h' 16 (by decide)).trans P.2.2.1, P.2.2.2⟩, ⟨q, (h' 17 (by decide)).trans B.1, (h' 18 (by decide)).trans B.2⟩, ⟨kw, V, W, (h' 19 (by decide)).trans x1, (h' 25 (by decide)).trans x2, x3, fun i hi => (h' _ ?_).trans (x4 i hi), x5⟩, ⟨P', R', S', (h' 27 (by decide)).trans K.1, (h' 28 (by decide)).trans K.2.1, (h' 29 (by decide)).trans K.2.2.1, (h' 30 (by decide)).trans K.2.2.2⟩, SV.off (fun i hi => h' i (by omega)), fun i hi => ?_⟩, ⟨h55, (h' 56 (by decide)).trans p2, Nat.mod_lt _ (by decide), by omega, fun i hi => ?_, fun j hj => ?_⟩, ⟨s1, (h' 65 (by decide)).trans s2, fun s hs => ?_, fun s hs hb => (h' _ (by omega)).trans (s4 s hs hb)⟩, (h' 69 (by decide)).trans A, ⟨(h' 9 (by decide)).trans O.1, (h' 10 (by decide)).trans O.2.1, O.2.2⟩, ⟨(h' 2 (by decide)).trans I.1, (h' 3 (by decide)).trans I.2.1, (h' 7 (by decide)).trans I.2.2.1, I.2.2.2⟩, p, F, q2, ⟨(h' 1 (by decide)).trans r1, (h' 4 (by decide)).trans r2, (h' 5 (by decide)).trans r3, (h' 6 (by decide)).trans r4, (h' 8 (by decide)).trans r5⟩, r6⟩
  · unfold wA; split <;> omega
  · obtain ⟨A1, b1, b2⟩ := AN i hi
    exact ⟨A1, (h' _ (by omega)).trans b1, b2⟩
  · obtain ⟨q, e2⟩ := p5 i hi
    exact ⟨q, (h' _ (by omega)).trans e2⟩
  · rw [show ((nx + 7) % 8 + 7 - j) % 8 = (nx + 7 - (j + 1)) % 8 by omega]
    exact (h' _ (by omega)).trans (p6 (j + 1) (by omega))
  · obtain ⟨q, e⟩ := s3 s hs
    exact ⟨q, (h' _ (by omega)).trans e⟩
theorem p_undo (I : INV c) : PAIR m_X9_undo m_X10_undo (d + 20) [] (fun _ => 0) c := by
  obtain ⟨n, g, w, nx, ch, kp, Hg, Hw, Sg, Sw, a, im, fi, om, fo, S, M, Dt⟩ := I
  have N := S.1.1
  have hn := N.le
  cases ch with
  | zero => exact pch M (t_undo0 (d := d + 18) N S.2.1.1) S (fun _ _ => rfl) Dt (fun R X => q_undo0 (d := d + 20) R X)
  | succ ch =>
    obtain ⟨p1, p2, p3, p4, p5, p6⟩ := S.2.1
    obtain ⟨F0, h0⟩ := Dt.2.1 0 (by omega)
    have row := p6 0 (by omega)
    refine pch M (t_undo (d := d + 18) N p1 p2 p3 (by omega) row (F0.1.k hn)) (c0_back S (fun i hi => (up1_ne _ _ (by omega)).trans ((up1_ne _ _ (by omega)).trans (up1_ne _ _ (by omega)))) ((up1_ne _ _ (by decide)).trans (up1_same _ _ _)) (up1_same _ _ _) ((up1_ne _ _ (by decide)).trans ((up1_ne _ _ (by decide)).trans (up1_same _ _ _))) F0.1.1) (fun j hj => (up1_ne _ _ (by omega)).trans ((up1_ne _ _ (by omega)).trans (up1_ne _ _ (by omega)))) ⟨h0, fun j hj => Dt.2.1 (j + 1) (by omega), Dt.2.2⟩ (fun R X => q_undo (d := d + 20) R X F0 (wq_99 h0))
end
