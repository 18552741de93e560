section
variable {d m n t k : Nat} {c c' : Nat → List Value} {z : Nat → Int32} {g w : Nat → Nat} {x y u : Int32}
variable {nx ch kp im om : Nat} {Hg Hw Sg Sw : Nat → Nat → Nat} {a fi fo : Nat → Int32}
theorem p_labellings (I : INV c) : PAIR m_X9_labellings m_X10_labellings (d + 20) [.int x] (fun e => if e = 1 then 1 else 0) c := by
  obtain ⟨n, g, w, nx, ch, kp, Hg, Hw, Sg, Sw, a, im, fi, om, fo, S, M, Dt⟩ := I
  have N := S.1.1
  have F := M.1.F
  have hn := N.le
  rcases comp_no F.1 hn x with ⟨k, l, hk, rfl, hl, hcl, hlow, hc0⟩ | ⟨h0, hno⟩
  · obtain ⟨kw, V, W, X⟩ := S.1.2.2.2.1
    have D := X.D (Or.inl rfl)
    have ok := Sy_ok F hn hl
    have e1 := sy_ok2 (T := (V, W)) F hn hl
    have hne : ¬ syX g n l (V, W) = 0 := by rw [e1]; exact fun e => by have := (i_eq0 ok.2.2).mp e; omega
    have m9 := t_labellings (d := d + 14) N X hc0 hlow hl hne
    have hf : ∀ k, k ≤ 10 → fac k < 2147483648 := by decide
    rw [e1, pk_div (hf _ (pc_le _)) ok.1 ok.2.2] at m9
    exact pq M Dt m9 (S.wd X.2.2.1 (syS_ok (F.1.k hn) hn D.S hl)) (fun i hi => cW_ne (by omega)) (fun R => q_labellings (d := d + 3) R (isV_t hk) hlow hl)
  · exact px S M Dt (t_labellingsX (d := d + 14) N h0) (q_labellingsX (d := d + 3) M.1 (decide_eq_false (fun ⟨v, h1, h2⟩ => hno v h1 h2))) (by decide)
/-- input and output may change -/
theorem C0.io {im' om' : Nat} {fi' fo' : Nat → Int32} (S : C0 c n g w nx ch kp Hg Hw Sg Sw a im fi om fo) (h0 : c' 0 = c 0) (h : ∀ i, 10 < i → i < 70 → c' i = c i) (O : OB c' om' fo') (I : RB c' im' fi') (hR : ∃ p F q, RD c' p F q ∧ FS F ∧ 1 ≤ F.1) : C0 c' n g w nx ch kp Hg Hw Sg Sw a im' fi' om' fo' := by
  obtain ⟨⟨N, ⟨n2, g2, w2, P⟩, ⟨q, B⟩, ⟨kw, V, W, x1, x2, x3, x4, x5⟩, ⟨P', R', S', K⟩, SV, AN⟩, ⟨p1, p2, p3, p4, p5, p6⟩, ⟨s1, s2, s3, s4⟩, A, -⟩ := S
  have h' : ∀ i, 10 < i ∧ i < 70 → c' i = c i := fun i hi => h i hi.1 hi.2
  refine ⟨⟨⟨h0.trans N.1, (h' 11 (by decide)).trans N.2.1, (h' 12 (by decide)).trans N.2.2.1, (h' 13 (by decide)).trans N.2.2.2.1, N.2.2.2.2⟩, ⟨n2, g2, w2, (h' 14 (by decide)).trans P.1, (h' 15 (by decide)).trans P.2.1, (h' 16 (by decide)).trans P.2.2.1, P.2.2.2⟩, ⟨q, (h' 17 (by decide)).trans B.1, (h' 18 (by decide)).trans B.2⟩, ⟨kw, V, W, (h' 19 (by decide)).trans x1, (h' 25 (by decide)).trans x2, x3, fun i hi => (h' _ ?_).trans (x4 i hi), x5⟩, ⟨P', R', S', (h' 27 (by decide)).trans K.1, (h' 28 (by decide)).trans K.2.1, (h' 29 (by decide)).trans K.2.2.1, (h' 30 (by decide)).trans K.2.2.2⟩, SV.off (fun i hi => h' i (by omega)), fun i hi => ?_⟩, ⟨(h' 55 (by decide)).trans p1, (h' 56 (by decide)).trans p2, p3, p4, fun i hi => ?_, fun j hj => (h' _ ?_).trans (p6 j hj)⟩, ⟨s1, (h' 65 (by decide)).trans s2, fun s hs => ?_, fun s hs hb => (h' _ (by omega)).trans (s4 s hs hb)⟩, (h' 69 (by decide)).trans A, O, I, hR⟩
  · unfold wA; split <;> omega
  · obtain ⟨A1, a1, a2⟩ := AN i hi
    exact ⟨A1, (h' _ (by omega)).trans a1, a2⟩
  · obtain ⟨q, e⟩ := p5 i hi
    exact ⟨q, (h' _ (by omega)).trans e⟩
  · omega
  · obtain ⟨q, e⟩ := s3 s hs
    exact ⟨q, (h' _ (by omega)).trans e⟩
theorem BQ.H (R : RF c n g w) (B : BQ c c') : TH c' 0 := by
  obtain ⟨z, hz, -⟩ := R.Z
  obtain ⟨z', h1, h2, -⟩ := B.2 z hz
  exact ⟨z', h1, h2⟩
/-- a call of the buffer -/
theorem pb {M9 M10 : ab_M} {D : Nat} {as : List Value} {kind : Nat → Nat} {v : Value} {c1 : Nat → List Value} {im' : Nat} {fi' : Nat → Int32} (M : M0 c n g w ch kp Hg Hw Sg Sw a im fi om fo) (Dt : D0 n w ch kp Hg Hw Sg Sw) (m9 : MSE M9 D (.ref 0 :: as) (hp c) (some v) (hp c1)) (S1 : C0 c1 n g w nx ch kp Hg Hw Sg Sw a im' fi' om fo) (fr : ∀ i, 69 < i → c1 i = c i) (m10 : ∀ {c1 : Nat → List Value}, IF c1 im fi → ∃ c2, MSE M10 D (.ref 70 :: as) (hp c1) (some v) (hp c2) ∧ IF c2 im' fi' ∧ BQ c1 c2) (hv : vt M10 v := by trivial) : PAIR M9 M10 D as kind c := by
  refine Or.inl ⟨c1, v, m9, hv, fr, fun c1' h => ?_⟩
  have M1 : M0 c1' n g w ch kp Hg Hw Sg Sw a im fi om fo := M.cls (fun i h1 h2 => (h i h2).trans (fr i h1))
  obtain ⟨c2, m, I2, B⟩ := m10 M1.2.2.1
  obtain ⟨R, X, -, o1, f2, o2, o3⟩ := M1
  obtain ⟨z, hz, -⟩ := R.Z
  obtain ⟨z', hz', -, hzz⟩ := B.2 z hz
  refine ⟨c2, m, B.H R, ⟨n, g, w, nx, ch, kp, Hg, Hw, Sg, Sw, a, im', fi', om, fo, (S1.same (fun i hi => h i (by omega))).same (fun i hi => B.1 i (by omega) (by omega)), ⟨R.b B, X.b B, I2, fun z2 hz2 => ?_, f2, (B.1 79 (by decide) (by decide)).trans o2, o3⟩, Dt⟩, fun i hi => B.1 i (by omega) (by omega)⟩
  have e : moL z2 = moL z' := hz2.symm.trans hz'
  have := congrArg (fun l : List Value => l[24]?) e
  have e2 : z2 24 = z' 24 := by simpa [moL] using this
  rw [e2, hzz 24 (by decide) (by decide)]
  exact o1 z hz
theorem RB.I (R : RB c im fi) (h : ∃ p F q, RD c p F q ∧ FS F ∧ 1 ≤ F.1) : IB c im fi := by
  obtain ⟨p, F, q, r, -⟩ := h
  exact ⟨⟨p, r.1⟩, R.1, R.2.1, R.2.2.2⟩
theorem p_bufferLength (I : INV c) : PAIR m_X9_bufferLength m_X10_bufferLength (d + 20) [] (fun _ => 0) c := by
  obtain ⟨n, g, w, nx, ch, kp, Hg, Hw, Sg, Sw, a, im, fi, om, fo, S, M, Dt⟩ := I
  have B := S.2.2.2.2.2.1.I S.2.2.2.2.2.2
  exact pb M Dt (t_bufferLength (d := d + 20) S.1.1.1 B) S (fun _ _ => rfl) (fun I1 => q_bufferLength (d := d + 20) I1)
theorem p_truncate (I : INV c) : PAIR m_X9_truncate m_X10_truncate (d + 20) [.int x] (fun _ => 0) c := by
  obtain ⟨n, g, w, nx, ch, kp, Hg, Hw, Sg, Sw, a, im, fi, om, fo, S, M, Dt⟩ := I
  have RBc := S.2.2.2.2.2.1
  have B := RBc.I S.2.2.2.2.2.2
  have him := RBc.2.2.2
  rcases rng x (lo := 0) (hi := im) (Nat.zero_le _) (by omega) with hx | ⟨-, hx⟩ | ⟨j, -, j2, rfl⟩
  · exact pb M Dt (t_truncate0 (d := d + 19) S.1.1.1 B (Or.inl hx)) S (fun _ _ => rfl) (fun I1 => q_truncate0 (d := d + 19) I1 (Or.inl hx))
  · exact pb M Dt (t_truncate0 (d := d + 19) S.1.1.1 B (Or.inr (Int32.not_le.mpr hx))) S (fun _ _ => rfl) (fun I1 => q_truncate0 (d := d + 19) I1 (Or.inr hx))
  · obtain ⟨p, F, q, ⟨r1, r2, r3, r4, r5⟩, r6⟩ := S.2.2.2.2.2.2
    have O := S.2.2.2.2.1
    refine pb M Dt (t_truncate (d := d + 19) S.1.1.1 B j2) (S.io (im' := j) (fi' := fi) (up1_ne _ _ (by decide)) (fun i h1 h2 => up1_ne _ _ (by omega)) ⟨(up1_ne _ _ (by decide)).trans O.1, (up1_ne _ _ (by decide)).trans O.2.1, O.2.2⟩ ⟨up1_same _ _ _, (up1_ne _ _ (by decide)).trans RBc.2.1, (up1_ne _ _ (by decide)).trans RBc.2.2.1, by omega⟩ ⟨p, F, q, ⟨(up1_ne _ _ (by decide)).trans r1, (up1_ne _ _ (by decide)).trans r2, (up1_ne _ _ (by decide)).trans r3, (up1_ne _ _ (by decide)).trans r4, (up1_ne _ _ (by decide)).trans r5⟩, r6⟩) (fun i hi => up1_ne _ _ (by omega)) (fun I1 => q_truncate (d := d + 19) I1 j2)
theorem p_append {x1 x2 x3 x4 x5 : Int32} (I : INV c) : PAIR m_X9_append m_X10_append (d + 20) [.int x1, .int x2, .int x3, .int x4, .int x5] (fun _ => 0) c := by
  obtain ⟨n, g, w, nx, ch, kp, Hg, Hw, Sg, Sw, a, im, fi, om, fo, S, M, Dt⟩ := I
  have RBc := S.2.2.2.2.2.1
  have B := RBc.I S.2.2.2.2.2.2
  by_cases h : im ≤ 380
  · obtain ⟨p, F, q, ⟨r1, r2, r3, r4, r5⟩, r6⟩ := S.2.2.2.2.2.2
    have O := S.2.2.2.2.1
    have ne : ∀ i, i ≠ 2 → i ≠ 3 → cI c im fi (tw x1 x2 x3 x4 x5) i = c i := fun i a b => (up1_ne _ _ a).trans (up1_ne _ _ b)
    refine pb M Dt (t_append (d := d + 18) S.1.1.1 B h) (S.io (im' := im + 20) (fi' := lay fi im (tw x1 x2 x3 x4 x5)) (ne 0 (by decide) (by decide)) (fun i h1 h2 => ne i (by omega) (by omega)) ⟨(ne 9 (by decide) (by decide)).trans O.1, (ne 10 (by decide) (by decide)).trans O.2.1, O.2.2⟩ ⟨up1_same _ _ _, (up1_ne _ _ (by decide)).trans (up1_same _ _ _), (ne 7 (by decide) (by decide)).trans RBc.2.2.1, by omega⟩ ⟨p, F, q, ⟨(ne 1 (by decide) (by decide)).trans r1, (ne 4 (by decide) (by decide)).trans r2, (ne 5 (by decide) (by decide)).trans r3, (ne 6 (by decide) (by decide)).trans r4, (ne 8 (by decide) (by decide)).trans r5⟩, r6⟩) (fun i hi => ne i (by omega) (by omega)) (fun I1 => q_append (d := d + 19) I1 h)
  · exact pb M Dt (t_append0 (d := d + 18) S.1.1.1 B (by omega)) S (fun _ _ => rfl) (fun I1 => q_append0 (d := d + 19) I1 (by omega))
end
