section
variable {d m n t k : Nat} {c c' : Nat → List Value} {z : Nat → Int32} {g w : Nat → Nat} {x y u : Int32}
variable {nx ch kp im om : Nat} {Hg Hw Sg Sw : Nat → Nat → Nat} {a fi fo : Nat → Int32}
theorem p_code (I : INV c) : PAIR m_X9_code m_X10_code (d + 20) [.int x] (fun e => if e = 3 then 1 else if e = 4 then 2 else 0) c := by
  obtain ⟨n, g, w, nx, ch, kp, Hg, Hw, Sg, Sw, a, im, fi, om, fo, S, M, Dt⟩ := I
  have N := S.1.1
  have F := M.1.F
  have hn := N.le
  have he := Nat.le_of_lt (ed_lt F N.one hn)
  by_cases T : TR g n
  · have h1 := (tr_iff F hn N.one).mpr T
    cases hs : isV (n - 2) x with
    | false => exact px S M Dt (t_codeX4 (d := d + 16) N h1 he (isV_no hs)) (q_codeX2 (d := d + 16) M.1 T (isV_no hs)) (by decide)
    | true =>
      obtain ⟨i, hi, rfl⟩ := isV_of hs
      obtain ⟨q, B⟩ := S.1.2.2.1
      exact pq M Dt (t_code (d := d + 16) N B h1 he (tk_ok F hn T) hi) S.cd (fun i hi => up1_ne _ _ (by omega)) (fun R => q_code (d := d + 16) R T hi)
  · have h1 : n - ed g n ≠ 1 := fun e => T ((tr_iff F hn N.one).mp e)
    exact px S M Dt (t_codeX3 (d := d + 16) N h1 he) (q_codeX1 (d := d + 16) M.1 T) (by decide)
theorem p_rank (I : INV c) : PAIR m_X9_rank m_X10_rank (d + 20) [] (fun e => if e = 3 then 1 else 0) c := by
  obtain ⟨n, g, w, nx, ch, kp, Hg, Hw, Sg, Sw, a, im, fi, om, fo, S, M, Dt⟩ := I
  have N := S.1.1
  have F := M.1.F
  have hn := N.le
  have he := Nat.le_of_lt (ed_lt F N.one hn)
  by_cases T : TR g n
  · obtain ⟨q, B⟩ := S.1.2.2.1
    exact pq M Dt (t_rank (d := d + 16) N B ((tr_iff F hn N.one).mpr T) he (tk_ok F hn T)) S.cd (fun i hi => up1_ne _ _ (by omega)) (fun R => q_rank (d := d + 16) R T)
  · exact px S M Dt (t_rankX (d := d + 16) N (fun e => T ((tr_iff F hn N.one).mp e)) he) (q_rankX (d := d + 16) M.1 T) (by decide)
theorem p_sameDegrees (I : INV c) : PAIR m_X9_sameDegrees m_X10_sameDegrees (d + 20) [] (fun e => if e = 3 then 1 else 0) c := by
  obtain ⟨n, g, w, nx, ch, kp, Hg, Hw, Sg, Sw, a, im, fi, om, fo, S, M, Dt⟩ := I
  have N := S.1.1
  have F := M.1.F
  have hn := N.le
  have he := Nat.le_of_lt (ed_lt F N.one hn)
  by_cases T : TR g n
  · exact pq M Dt (t_sameDegrees (d := d + 16) N ((tr_iff F hn N.one).mpr T) he) S (fun _ _ => rfl) (fun R => q_sameDegrees (d := d + 16) R T)
  · exact px S M Dt (t_sameDegreesX (d := d + 16) N (fun e => T ((tr_iff F hn N.one).mp e)) he) (q_sameDegreesX (d := d + 16) M.1 T) (by decide)
theorem C0.sv (S : C0 c n g w nx ch kp Hg Hw Sg Sw a im fi om fo) (h : ∀ i, i < 31 ∨ 54 < i → c' i = c i) (SV : SVB c') (AN : ANS c') : C0 c' n g w nx ch kp Hg Hw Sg Sw a im fi om fo := by
  obtain ⟨⟨N, ⟨n2, g2, w2, P⟩, ⟨q, B⟩, ⟨kw, V, W, x1, x2, x3, x4, x5⟩, ⟨P', R', S', K⟩, -, -⟩, ⟨p1, p2, p3, p4, p5, p6⟩, ⟨s1, s2, s3, s4⟩, A, O, I, p, F, q2, ⟨r1, r2, r3, r4, r5⟩, r6⟩ := S
  refine ⟨⟨⟨(h 0 (by decide)).trans N.1, (h 11 (by decide)).trans N.2.1, (h 12 (by decide)).trans N.2.2.1, (h 13 (by decide)).trans N.2.2.2.1, N.2.2.2.2⟩, ⟨n2, g2, w2, (h 14 (by decide)).trans P.1, (h 15 (by decide)).trans P.2.1, (h 16 (by decide)).trans P.2.2.1, P.2.2.2⟩, ⟨q, (h 17 (by decide)).trans B.1, (h 18 (by decide)).trans B.2⟩, ⟨kw, V, W, (h 19 (by decide)).trans x1, (h 25 (by decide)).trans x2, x3, fun i hi => (h _ ?_).trans (x4 i hi), x5⟩, ⟨P', R', S', (h 27 (by decide)).trans K.1, (h 28 (by decide)).trans K.2.1, (h 29 (by decide)).trans K.2.2.1, (h 30 (by decide)).trans K.2.2.2⟩, SV, AN⟩, ⟨(h 55 (by decide)).trans p1, (h 56 (by decide)).trans p2, p3, p4, fun i hi => ?_, fun j hj => (h _ ?_).trans (p6 j hj)⟩, ⟨s1, (h 65 (by decide)).trans s2, fun s hs => ?_, fun s hs hb => (h _ (by omega)).trans (s4 s hs hb)⟩, (h 69 (by decide)).trans A, ⟨(h 9 (by decide)).trans O.1, (h 10 (by decide)).trans O.2.1, O.2.2⟩, ⟨(h 2 (by decide)).trans I.1, (h 3 (by decide)).trans I.2.1, (h 7 (by decide)).trans I.2.2.1, I.2.2.2⟩, p, F, q2, ⟨(h 1 (by decide)).trans r1, (h 4 (by decide)).trans r2, (h 5 (by decide)).trans r3, (h 6 (by decide)).trans r4, (h 8 (by decide)).trans r5⟩, r6⟩
  · unfold wA; split <;> omega
  · obtain ⟨q, e⟩ := p5 i hi
    exact ⟨q, (h _ (by omega)).trans e⟩
  · omega
  · obtain ⟨q, e⟩ := s3 s hs
    exact ⟨q, (h _ (by omega)).trans e⟩
/-- a number within bounds, below, or beyond -/
theorem rng (x : Int32) {lo hi : Nat} (h : lo ≤ hi) (hh : hi < 1000) : x < nI lo ∨ (nI (hi + 1) ≤ x ∧ nI hi < x) ∨ ∃ k, lo ≤ k ∧ k ≤ hi ∧ x = nI k := by
  rcases pk_ix x (n := hi + 1) (by omega) with e | e | ⟨j, hj, e⟩
  · refine Or.inl ?_
    have : (0 : Int32) ≤ nI lo := nI_le (a := 0) (Nat.zero_le lo) (by omega)
    exact Int32.lt_of_lt_of_le e this
  · exact Or.inr (Or.inl ⟨e, Int32.lt_of_lt_of_le (nI_lt (a := hi) (b := hi + 1) (by omega) (by omega)) e⟩)
  · by_cases hl : j < lo
    · rw [e]; exact Or.inl (nI_lt hl (by omega))
    · exact Or.inr (Or.inr ⟨j, by omega, by omega, e⟩)
theorem p_survey (I : INV c) : PAIR m_X9_survey m_X10_survey (d + 20) [.int x, .int y] (fun e => if e = 2 then 1 else 0) c := by
  obtain ⟨n, g, w, nx, ch, kp, Hg, Hw, Sg, Sw, a, im, fi, om, fo, S, M, Dt⟩ := I
  rcases rng x (lo := 1) (hi := 6) (by decide) (by decide) with hx | ⟨-, hx⟩ | ⟨j, j1, j2, rfl⟩
  · exact px S M Dt (t_surveyX (d := d + 14) (Or.inl (Or.inl hx))) (q_surveyX (d := d + 4) M.1 (Or.inl (Or.inl hx))) (by decide)
  · exact px S M Dt (t_surveyX (d := d + 14) (Or.inl (Or.inr hx))) (q_surveyX (d := d + 4) M.1 (Or.inl (Or.inr hx))) (by decide)
  · rcases rng y (lo := 0) (hi := 2) (by decide) (by decide) with hy | ⟨hy', hy⟩ | ⟨b, -, b2, rfl⟩
    · exact px S M Dt (t_surveyX (d := d + 14) (Or.inr (Or.inl hy))) (q_surveyX (d := d + 4) M.1 (Or.inr (Or.inl hy))) (by decide)
    · exact px S M Dt (t_surveyX (d := d + 14) (Or.inr (Or.inr (Int32.not_lt.mpr hy')))) (q_surveyX (d := d + 4) M.1 (Or.inr (Or.inr hy))) (by decide)
    · obtain ⟨c1, m9, SV, AN, fr⟩ := t_survey (d := d + 14) S.1.1.1 S.1.2.2.2.2.2.1 S.1.2.2.2.2.2.2 j1 j2 (a := b) (by omega)
      exact pq M Dt m9 (S.sv fr SV AN) (fun i hi => fr i (by omega)) (fun R => q_survey (d := d + 4) R j1 j2 (by omega) (fun k hk => Nat.lt_of_le_of_lt (svB j1 j2 hk) (by decide)))
theorem p_account (I : INV c) : PAIR m_X9_account m_X10_account (d + 20) [.int x] (fun e => if e = 2 then 1 else 0) c := by
  obtain ⟨n, g, w, nx, ch, kp, Hg, Hw, Sg, Sw, a, im, fi, om, fo, S, M, Dt⟩ := I
  rcases rng x (lo := 0) (hi := 9) (by decide) (by decide) with hx | ⟨hx', hx⟩ | ⟨j, -, j2, rfl⟩
  · exact px S M Dt (t_accountX (d := d + 20) (Or.inl hx)) (q_accountX (d := d + 19) M.1 (Or.inl hx)) (by decide)
  · exact px S M Dt (t_accountX (d := d + 20) (Or.inr (Int32.not_lt.mpr hx'))) (q_accountX (d := d + 19) M.1 (Or.inr hx)) (by decide)
  · exact pqM M Dt (t_account (d := d + 20) S.1.1.1 S.2.2.2.1 (show j < 10 by omega)) S (fun _ _ => rfl) (fun M1 => q_account (d := d + 19) M1.1 M1.2.1.2.2.2.2.2 (by omega))
theorem p_withLeaves (I : INV c) : PAIR m_X9_withLeaves m_X10_withLeaves (d + 20) [.int x, .int y] (fun e => if e = 2 then 1 else 0) c := by
  obtain ⟨n, g, w, nx, ch, kp, Hg, Hw, Sg, Sw, a, im, fi, om, fo, S, M, Dt⟩ := I
  rcases rng x (lo := 1) (hi := 10) (by decide) (by decide) with hx | ⟨-, hx⟩ | ⟨j, j1, j2, rfl⟩
  · exact px S M Dt (t_withLeavesX (d := d + 17) (Or.inl hx)) (q_withLeavesX (d := d + 8) M.1 (Or.inl hx)) (by decide)
  · exact px S M Dt (t_withLeavesX (d := d + 17) (Or.inr (Or.inl hx))) (q_withLeavesX (d := d + 8) M.1 (Or.inr (Or.inl hx))) (by decide)
  · rcases rng y (lo := 0) (hi := 10) (by decide) (by decide) with hy | ⟨-, hy⟩ | ⟨b, -, b2, rfl⟩
    · exact px S M Dt (t_withLeavesX (d := d + 17) (Or.inr (Or.inr (Or.inl hy)))) (q_withLeavesX (d := d + 8) M.1 (Or.inr (Or.inr (Or.inl hy)))) (by decide)
    · exact px S M Dt (t_withLeavesX (d := d + 17) (Or.inr (Or.inr (Or.inr (Int32.not_le.mpr hy))))) (q_withLeavesX (d := d + 8) M.1 (Or.inr (Or.inr (Or.inr hy)))) (by decide)
    · obtain ⟨P, R', S', K⟩ := S.1.2.2.2.2.1
      exact pq M Dt (t_withLeaves (d := d + 17) S.1.1.1 K j1 j2 b2) (S.kt (fun i hi => up1_ne _ _ (by omega)) (up1_same _ _ _) ((up1_ne _ _ (by decide)).trans K.2.2.1) ((up1_ne _ _ (by decide)).trans K.2.2.2)) (fun i hi => up1_ne _ _ (by omega)) (fun R => q_withLeaves (d := d + 8) R j1 j2 b2)
theorem p_classes (I : INV c) : PAIR m_X9_classes m_X10_classes (d + 20) [.int x, .int y] (fun e => if e = 2 then 1 else 0) c := by
  obtain ⟨n, g, w, nx, ch, kp, Hg, Hw, Sg, Sw, a, im, fi, om, fo, S, M, Dt⟩ := I
  rcases rng x (lo := 1) (hi := 10) (by decide) (by decide) with hx | ⟨-, hx⟩ | ⟨j, j1, j2, rfl⟩
  · exact px S M Dt (t_classesX (d := d + 17) (Or.inl hx)) (q_classesX (d := d + 17) M.1 (Or.inl hx)) (by decide)
  · exact px S M Dt (t_classesX (d := d + 17) (Or.inr (Int32.not_le.mpr hx))) (q_classesX (d := d + 17) M.1 (Or.inr hx)) (by decide)
  · obtain ⟨P, R', S', K⟩ := S.1.2.2.2.2.1
    have S2 : C0 (cKt c R') n g w nx ch kp Hg Hw Sg Sw a im fi om fo := S.kt (fun i hi => (up1_ne _ _ (by omega)).trans (up1_ne _ _ (by omega))) (((up1_ne _ _ (by decide)).trans (up1_ne _ _ (by decide))).trans K.2.1) ((up1_ne _ _ (by decide)).trans (up1_same _ _ _)) (up1_same _ _ _)
    have fr : ∀ i, 69 < i → cKt c R' i = c i := fun i hi => (up1_ne _ _ (by omega)).trans (up1_ne _ _ (by omega))
    by_cases hy : y = 0
    · subst hy
      exact pq M Dt (t_classesF (d := d + 17) S.1.1.1 K j1 j2) S2 fr (fun R => q_classesF (d := d + 17) R j1 j2)
    · exact pq M Dt (t_classesR (d := d + 17) S.1.1.1 K hy j1 j2) S2 fr (fun R => q_classesR (d := d + 17) R hy j1 j2)
end
