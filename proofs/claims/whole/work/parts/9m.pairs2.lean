section
variable {d m n t k : Nat} {c c' : Nat → List Value} {z : Nat → Int32} {g w : Nat → Nat} {x y u : Int32}
variable {nx ch kp im om : Nat} {Hg Hw Sg Sw : Nat → Nat → Nat} {a fi fo : Nat → Int32}
/-- what the class works with may change -/
theorem C0.mem (S : C0 c n g w nx ch kp Hg Hw Sg Sw a im fi om fo) (h : ∀ i, i < 14 ∨ (30 < i ∧ i < 70) → c' i = c i) (hP : ∃ n2 g2 w2, PB c' n2 g2 w2) (hB : ∃ q, CB c' q) (hX : ∃ k V W, WX 19 c' k V W) (hK : ∃ P R S, KB c' P R S) : C0 c' n g w nx ch kp Hg Hw Sg Sw a im fi om fo := by
  obtain ⟨⟨N, -, -, -, -, SV, AN⟩, ⟨p1, p2, p3, p4, p5, p6⟩, ⟨s1, s2, s3, s4⟩, A, O, I, p, F, q2, ⟨r1, r2, r3, r4, r5⟩, r6⟩ := S
  refine ⟨⟨⟨(h 0 (by decide)).trans N.1, (h 11 (by decide)).trans N.2.1, (h 12 (by decide)).trans N.2.2.1, (h 13 (by decide)).trans N.2.2.2.1, N.2.2.2.2⟩, hP, hB, hX, hK, SV.off (fun i hi => h i (by omega)), fun i hi => ?_⟩, ⟨(h 55 (by decide)).trans p1, (h 56 (by decide)).trans p2, p3, p4, fun i hi => ?_, fun j hj => (h _ ?_).trans (p6 j hj)⟩, ⟨s1, (h 65 (by decide)).trans s2, fun s hs => ?_, fun s hs hb => (h _ (by omega)).trans (s4 s hs hb)⟩, (h 69 (by decide)).trans A, ⟨(h 9 (by decide)).trans O.1, (h 10 (by decide)).trans O.2.1, O.2.2⟩, ⟨(h 2 (by decide)).trans I.1, (h 3 (by decide)).trans I.2.1, (h 7 (by decide)).trans I.2.2.1, I.2.2.2⟩, p, F, q2, ⟨(h 1 (by decide)).trans r1, (h 4 (by decide)).trans r2, (h 5 (by decide)).trans r3, (h 6 (by decide)).trans r4, (h 8 (by decide)).trans r5⟩, r6⟩
  · obtain ⟨A1, a1, a2⟩ := AN i hi
    exact ⟨A1, (h _ (by omega)).trans a1, a2⟩
  · obtain ⟨q, e⟩ := p5 i hi
    exact ⟨q, (h _ (by omega)).trans e⟩
  · omega
  · obtain ⟨q, e⟩ := s3 s hs
    exact ⟨q, (h _ (by omega)).trans e⟩
/-- .. the words -/
theorem C0.wd (S : C0 c n g w nx ch kp Hg Hw Sg Sw a im fi om fo) {k : Nat} {V : Nat → Nat} {W : Nat → Nat → Int32} (hk : k ≤ 10) (hw : wsOk (V, W)) : C0 (cW 19 c k W) n g w nx ch kp Hg Hw Sg Sw a im fi om fo := by
  have S0 := S
  obtain ⟨⟨N, ⟨n2, g2, w2, P⟩, ⟨q, B⟩, ⟨kw, V0, W0, X⟩, ⟨P', R', S', K⟩, -⟩, -⟩ := S0
  refine S.mem (fun i hi => cW_ne (by omega)) ⟨n2, g2, w2, (cW_ne (by decide)).trans P.1, (cW_ne (by decide)).trans P.2.1, (cW_ne (by decide)).trans P.2.2.1, P.2.2.2⟩ ⟨q, (cW_ne (by decide)).trans B.1, (cW_ne (by decide)).trans B.2⟩ ⟨k, V, W, cW_WX X hk hw⟩ ⟨P', R', S', (cW_ne (by decide)).trans K.1, (cW_ne (by decide)).trans K.2.1, (cW_ne (by decide)).trans K.2.2.1, (cW_ne (by decide)).trans K.2.2.2⟩
/-- .. the codes -/
theorem C0.cd (S : C0 c n g w nx ch kp Hg Hw Sg Sw a im fi om fo) {q' : Nat → Nat} : C0 (up1 c 18 (ar 10 (fun i => nI (q' i)))) n g w nx ch kp Hg Hw Sg Sw a im fi om fo := by
  have S0 := S
  obtain ⟨⟨N, ⟨n2, g2, w2, P⟩, ⟨q, B⟩, ⟨kw, V0, W0, x1, x2, x3, x4, x5⟩, ⟨P', R', S', K⟩, -⟩, -⟩ := S0
  refine S.mem (fun i hi => up1_ne _ _ (by omega)) ⟨n2, g2, w2, (up1_ne _ _ (by decide)).trans P.1, (up1_ne _ _ (by decide)).trans P.2.1, (up1_ne _ _ (by decide)).trans P.2.2.1, P.2.2.2⟩ ⟨q', (up1_ne _ _ (by decide)).trans B.1, up1_same _ _ _⟩ ⟨kw, V0, W0, (up1_ne _ _ (by decide)).trans x1, (up1_ne _ _ (by decide)).trans x2, x3, fun i hi => (up1_ne _ _ ?_).trans (x4 i hi), x5⟩ ⟨P', R', S', (up1_ne _ _ (by decide)).trans K.1, (up1_ne _ _ (by decide)).trans K.2.1, (up1_ne _ _ (by decide)).trans K.2.2.1, (up1_ne _ _ (by decide)).trans K.2.2.2⟩
  unfold wA; split <;> omega
/-- .. the pruned forest -/
theorem C0.pr (S : C0 c n g w nx ch kp Hg Hw Sg Sw a im fi om fo) (h : ∀ i, i < 14 ∨ (16 < i ∧ i < 70) → c' i = c i) (hP : ∃ n2 g2 w2, PB c' n2 g2 w2) : C0 c' n g w nx ch kp Hg Hw Sg Sw a im fi om fo := by
  have S0 := S
  obtain ⟨⟨N, -, ⟨q, B⟩, ⟨kw, V0, W0, x1, x2, x3, x4, x5⟩, ⟨P', R', S', K⟩, -⟩, -⟩ := S0
  refine S.mem (fun i hi => h i (by omega)) hP ⟨q, (h 17 (by decide)).trans B.1, (h 18 (by decide)).trans B.2⟩ ⟨kw, V0, W0, (h 19 (by decide)).trans x1, (h 25 (by decide)).trans x2, x3, fun i hi => (h _ ?_).trans (x4 i hi), x5⟩ ⟨P', R', S', (h 27 (by decide)).trans K.1, (h 28 (by decide)).trans K.2.1, (h 29 (by decide)).trans K.2.2.1, (h 30 (by decide)).trans K.2.2.2⟩
  unfold wA; split <;> omega
/-- .. the counts -/
theorem C0.kt (S : C0 c n g w nx ch kp Hg Hw Sg Sw a im fi om fo) (h : ∀ i, i < 28 ∨ (30 < i ∧ i < 70) → c' i = c i) {P R S' : Nat → Int32} (h1 : c' 28 = ar 11 P) (h2 : c' 29 = ar 11 R) (h3 : c' 30 = ar 11 S') : C0 c' n g w nx ch kp Hg Hw Sg Sw a im fi om fo := by
  have S0 := S
  obtain ⟨⟨N, ⟨n2, g2, w2, P0⟩, ⟨q, B⟩, ⟨kw, V0, W0, x1, x2, x3, x4, x5⟩, ⟨P', R', S1, K⟩, -⟩, -⟩ := S0
  refine S.mem (fun i hi => h i (by omega)) ⟨n2, g2, w2, (h 14 (by decide)).trans P0.1, (h 15 (by decide)).trans P0.2.1, (h 16 (by decide)).trans P0.2.2.1, P0.2.2.2⟩ ⟨q, (h 17 (by decide)).trans B.1, (h 18 (by decide)).trans B.2⟩ ⟨kw, V0, W0, (h 19 (by decide)).trans x1, (h 25 (by decide)).trans x2, x3, fun i hi => (h _ ?_).trans (x4 i hi), x5⟩ ⟨P, R, S', (h 27 (by decide)).trans K.1, h1, h2, h3⟩
  unfold wA; split <;> omega
theorem n64_0 : vf_n64 0 := by
  unfold vf_n64
  decide
theorem n32_0 : vf_n32 0 ∧ vf_n64 (FP.f2d 0) ∧ Op.cmpValue (FP.dcmp (FP.f2d 0) (FP.f2d 0)) .l = 0 := by
  unfold vf_n32 vf_n64
  decide +kernel
theorem nn32f : ∀ a, a < 11 → ∀ b, b < 11 → 0 < b → vf_n32 (FP.fdiv (FP.i2f (nI a)) (FP.i2f (nI b))) ∧ vf_n64 (FP.f2d (FP.fdiv (FP.i2f (nI a)) (FP.i2f (nI b)))) ∧ Op.cmpValue (FP.dcmp (FP.f2d (FP.fdiv (FP.i2f (nI a)) (FP.i2f (nI b)))) (FP.f2d (FP.fdiv (FP.i2f (nI a)) (FP.i2f (nI b))))) .l = 0 := by
  unfold vf_n32 vf_n64
  decide +kernel
theorem p_meanDistance (I : INV c) : PAIR m_X9_meanDistance m_X10_meanDistance (d + 20) [.int x] (fun e => if e = 1 then 1 else 0) c := by
  obtain ⟨n, g, w, nx, ch, kp, Hg, Hw, Sg, Sw, a, im, fi, om, fo, S, M, Dt⟩ := I
  have N := S.1.1
  cases hx : isV n x with
  | false => exact px S M Dt (t_meanDistanceX (d := d + 16) N (isV_no hx)) (q_meanDistanceX (d := d + 17) M.1 hx) (by decide) n64_0
  | true =>
    obtain ⟨v, hv, rfl⟩ := isV_of hx
    have G := M.1.F.1
    have hp' := comp_pos G N.le hv
    exact pq M Dt (t_meanDistance (d := d + 16) N hv (by omega) (mean_nn G N.le hv)) S (fun _ _ => rfl) (fun R => q_meanDistance (d := d + 17) R hv) (mean_nn G N.le hv)
theorem p_balance (I : INV c) : PAIR m_X9_balance m_X10_balance (d + 20) [.int x] (fun e => if e = 1 then 1 else 0) c := by
  obtain ⟨n, g, w, nx, ch, kp, Hg, Hw, Sg, Sw, a, im, fi, om, fo, S, M, Dt⟩ := I
  have N := S.1.1
  cases hx : isV n x with
  | false => exact px S M Dt (t_balanceX (d := d + 16) N (isV_no hx)) (q_balanceX (d := d + 17) M.1 hx) (by decide) n32_0
  | true =>
    obtain ⟨v, hv, rfl⟩ := isV_of hx
    have G := M.1.F.1
    have hp' := comp_pos G N.le hv
    exact pq M Dt (t_balance (d := d + 16) N hv Dt.1 (by omega) (bal_nn G N.le hv)) S (fun _ _ => rfl) (fun R => by
      have := q_balance (d := d + 17) R hv
      rw [wq_gp] at this
      exact this) (nn32f _ (show gp g w n v false < 11 from Nat.lt_succ_of_le gp_le10) _ (show pc (comp g n v) < 11 from Nat.lt_succ_of_le (pc_le _)) hp')
end
