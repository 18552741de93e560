section
variable {d m n t k : Nat} {c c' : Nat → List Value} {z : Nat → Int32} {g w g1 w1 : Nat → Nat} {x y u : Int32}
variable {nx ch kp im om : Nat} {Hg Hw Sg Sw : Nat → Nat → Nat} {a a1 fi fo : Nat → Int32}
/-! changes -/
theorem C0.R5 (S : C0 c n g w nx ch kp Hg Hw Sg Sw a im fi om fo) : RB5 c nx ch kp := ⟨S.2.1.1, S.2.1.2.1, S.2.1.2.2.2.2.1 nx S.2.1.2.2.1, S.2.1.2.2.1, S.2.1.2.2.2.1⟩
/-- the present forest changes: the former one is recorded -/
theorem c0_chg (S : C0 c n g w nx ch kp Hg Hw Sg Sw a im fi om fo) (h : ∀ i, i < 70 → i ≠ 12 → i ≠ 13 → i ≠ 18 → i ≠ 55 → i ≠ 57 + nx → i ≠ 69 → c' i = c i) (h12 : c' 12 = ar 10 (fun i => nI (g1 i))) (h13 : c' 13 = ar 10 (fun i => nI (w1 i))) (h18 : ∃ q : Nat → Nat, c' 18 = ar 10 (fun i => nI (q i))) (h55 : c' 55 = paL ((nx + 1) % 8) (min (ch + 1) 8) kp) (hr : c' (57 + nx) = ar 20 (fun i => nI (sv g w i))) (h69 : c' 69 = ar 10 a1) (hg1 : ∀ i, g1 i < 2 ^ n) : C0 c' n g1 w1 ((nx + 1) % 8) (min (ch + 1) 8) kp (shH Hg g) (shH Hw w) Sg Sw a1 im fi om fo := by
  obtain ⟨⟨N, ⟨n2, g2, w2, P⟩, ⟨q, B⟩, ⟨kw, V, W, x1, x2, x3, x4, x5⟩, ⟨P', R', S', K⟩, SV, AN⟩, ⟨p1, p2, p3, p4, p5, p6⟩, ⟨s1, s2, s3, s4⟩, A, O, I, p, F, q2, ⟨r1, r2, r3, r4, r5⟩, r6⟩ := S
  have h' : ∀ i, i < 55 → i ≠ 12 → i ≠ 13 → i ≠ 18 → c' i = c i := fun i a1 a2 a3 a4 => h i (by omega) a2 a3 a4 (by omega) (by omega) (by omega)
  obtain ⟨q', h18⟩ := h18
  refine ⟨⟨⟨(h' 0 (by decide) (by decide) (by decide) (by decide)).trans N.1, (h' 11 (by decide) (by decide) (by decide) (by decide)).trans N.2.1, h12, h13, N.2.2.2.2.1, N.2.2.2.2.2.1, hg1⟩, ⟨n2, g2, w2, (h' 14 (by decide) (by decide) (by decide) (by decide)).trans P.1, (h' 15 (by decide) (by decide) (by decide) (by decide)).trans P.2.1, (h' 16 (by decide) (by decide) (by decide) (by decide)).trans P.2.2.1, P.2.2.2⟩, ⟨q', (h' 17 (by decide) (by decide) (by decide) (by decide)).trans B.1, h18⟩, ⟨kw, V, W, (h' 19 (by decide) (by decide) (by decide) (by decide)).trans x1, (h' 25 (by decide) (by decide) (by decide) (by decide)).trans x2, x3, fun i hi => (h' _ ?_ ?_ ?_ ?_).trans (x4 i hi), x5⟩, ⟨P', R', S', (h' 27 (by decide) (by decide) (by decide) (by decide)).trans K.1, (h' 28 (by decide) (by decide) (by decide) (by decide)).trans K.2.1, (h' 29 (by decide) (by decide) (by decide) (by decide)).trans K.2.2.1, (h' 30 (by decide) (by decide) (by decide) (by decide)).trans K.2.2.2⟩, SV.off (fun i hi => h' i (by omega) (by omega) (by omega) (by omega)), fun i hi => ?_⟩, ⟨h55, (h 56 (by decide) (by decide) (by decide) (by decide) (by decide) (by omega) (by decide)).trans p2, Nat.mod_lt _ (by decide), by omega, fun i hi => ?_, fun j hj => ?_⟩, ⟨s1, (h 65 (by decide) (by decide) (by decide) (by decide) (by decide) (by omega) (by decide)).trans s2, fun s hs => ?_, fun s hs hb => (h _ (by omega) (by omega) (by omega) (by omega) (by omega) (by omega) (by omega)).trans (s4 s hs hb)⟩, h69, ⟨(h' 9 (by decide) (by decide) (by decide) (by decide)).trans O.1, (h' 10 (by decide) (by decide) (by decide) (by decide)).trans O.2.1, O.2.2⟩, ⟨(h' 2 (by decide) (by decide) (by decide) (by decide)).trans I.1, (h' 3 (by decide) (by decide) (by decide) (by decide)).trans I.2.1, (h' 7 (by decide) (by decide) (by decide) (by decide)).trans I.2.2.1, I.2.2.2⟩, p, F, q2, ⟨(h' 1 (by decide) (by decide) (by decide) (by decide)).trans r1, (h' 4 (by decide) (by decide) (by decide) (by decide)).trans r2, (h' 5 (by decide) (by decide) (by decide) (by decide)).trans r3, (h' 6 (by decide) (by decide) (by decide) (by decide)).trans r4, (h' 8 (by decide) (by decide) (by decide) (by decide)).trans r5⟩, r6⟩
  · unfold wA; split <;> omega
  · unfold wA; split <;> omega
  · unfold wA; split <;> omega
  · unfold wA; split <;> omega
  · obtain ⟨A1, b1, b2⟩ := AN i hi
    exact ⟨A1, (h' _ (by omega) (by omega) (by omega) (by omega)).trans b1, b2⟩
  · by_cases e : i = nx
    · exact ⟨sv g w, by rw [e]; exact hr⟩
    · obtain ⟨q, e2⟩ := p5 i hi
      exact ⟨q, (h _ (by omega) (by omega) (by omega) (by omega) (by omega) (by omega) (by omega)).trans e2⟩
  · cases j with
    | zero =>
      rw [show ((nx + 1) % 8 + 7 - 0) % 8 = nx by omega]
      exact hr
    | succ j =>
      have e : ((nx + 1) % 8 + 7 - (j + 1)) % 8 = (nx + 7 - j) % 8 := by omega
      rw [e]
      exact (h _ (by omega) (by omega) (by omega) (by omega) (by omega) (by omega) (by omega)).trans (p6 j (by omega))
  · obtain ⟨q, e⟩ := s3 s hs
    exact ⟨q, (h _ (by omega) (by omega) (by omega) (by omega) (by omega) (by omega) (by omega)).trans e⟩
theorem D0.chg (D : D0 n w ch kp Hg Hw Sg Sw) (F : FOR g n) (h1 : ∀ i, w1 i ≤ 99) : D0 n w1 (min (ch + 1) 8) kp (shH Hg g) (shH Hw w) Sg Sw := ⟨h1, fun j hj => by
  cases j with
  | zero => exact ⟨F, D.1⟩
  | succ j => exact D.2.1 j (by omega), D.2.2⟩
theorem CF.B (C : CF c c' t) : BH c c' := fun i hi => C.1 i (Or.inr (Or.inr (Or.inr hi)))
theorem pch {M9 M10 : ab_M} {D : Nat} {as : List Value} {kind : Nat → Nat} {v : Value} {c1 : Nat → List Value} {n1 nx1 ch1 kp1 : Nat} {Hg1 Hw1 Sg1 Sw1 : Nat → Nat → Nat} (M : M0 c n g w ch kp Hg Hw Sg Sw a im fi om fo) (m9 : MSE M9 D (.ref 0 :: as) (hp c) (some v) (hp c1)) (S1 : C0 c1 n1 g1 w1 nx1 ch1 kp1 Hg1 Hw1 Sg1 Sw1 a1 im fi om fo) (fr : ∀ i, 69 < i → c1 i = c i) (Dt : D0 n1 w1 ch1 kp1 Hg1 Hw1 Sg1 Sw1) (m10 : ∀ {c1 : Nat → List Value}, RF c1 n g (wq n w) → HF c1 ch kp Hg (fun j => wq n (Hw j)) Sg (fun s => wq n (Sw s)) a → ∃ c2, MSE M10 D (.ref 70 :: as) (hp c1) (some v) (hp c2) ∧ RF c2 n1 g1 (wq n1 w1) ∧ HF c2 ch1 kp1 Hg1 (fun j => wq n1 (Hw1 j)) Sg1 (fun s => wq n1 (Sw1 s)) a1 ∧ CF c1 c2 0) (hv : vt M10 v := by trivial) : PAIR M9 M10 D as kind c := by
  refine Or.inl ⟨c1, v, m9, hv, fr, fun c1' h => ?_⟩
  have M1 : M0 c1' n g w ch kp Hg Hw Sg Sw a im fi om fo := M.cls (fun i h1 h2 => (h i h2).trans (fr i h1))
  obtain ⟨R, X, I, o1, f2, o2, o3⟩ := M1
  obtain ⟨c2, m, R2, X2, C⟩ := m10 R X
  obtain ⟨z, hz, -⟩ := R.Z
  obtain ⟨z', hz', z0, hzz⟩ := C.2 z hz
  refine ⟨c2, m, ⟨z', hz', z0⟩, ⟨n1, g1, w1, nx1, ch1, kp1, Hg1, Hw1, Sg1, Sw1, a1, im, fi, om, fo, (S1.same (fun i hi => h i (by omega))).same (fun i hi => C.1 i (Or.inl hi)), ⟨R2, X2, ⟨⟨z', hz', ?_⟩, (C.1 77 (by unfold fr70; decide)).trans I.2.1, I.2.2⟩, fun z2 hz2 => ?_, f2, (C.1 79 (by unfold fr70; decide)).trans o2, o3⟩, Dt⟩, C.B⟩
  · rw [hzz 13 (by decide) (by decide) (by decide) (by decide)]; exact I.zz hz
  · have e : moL z2 = moL z' := hz2.symm.trans hz'
    have := congrArg (fun l : List Value => l[24]?) e
    have e2 : z2 24 = z' 24 := by simpa [moL] using this
    rw [e2, hzz 24 (by decide) (by decide) (by decide) (by decide)]
    exact o1 z hz
end
