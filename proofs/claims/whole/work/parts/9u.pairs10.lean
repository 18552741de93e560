section
variable {d m n t k : Nat} {c c' : Nat → List Value} {z : Nat → Int32} {g w g1 w1 : Nat → Nat} {x y u : Int32}
variable {nx ch kp im om : Nat} {Hg Hw Sg Sw : Nat → Nat → Nat} {a a1 fi fo : Nat → Int32}
theorem p_setWeight (I : INV c) : PAIR m_X9_setWeight m_X10_setWeight (d + 20) [.int x, .int y] (fun e => if e = 1 then 1 else if e = 2 then 2 else 0) c := by
  obtain ⟨n, g, w, nx, ch, kp, Hg, Hw, Sg, Sw, a, im, fi, om, fo, S, M, Dt⟩ := I
  have N := S.1.1
  have F := M.1.F
  have A := S.2.2.2.1
  cases hx : isV n x with
  | false => exact px S M Dt (t_setWeightX1 (d := d + 16) N (isV_no hx)) (q_setWeightX1 (d := d + 17) M.1 hx) (by decide)
  | true =>
    obtain ⟨v, hv, rfl⟩ := isV_of hx
    rcases rng y (lo := 0) (hi := 99) (by decide) (by decide) with hy | ⟨-, hy⟩ | ⟨b, -, b2, rfl⟩
    · exact px S M Dt (t_setWeightX2 (d := d + 16) N hv (Or.inl hy)) (q_setWeightX2 (d := d + 17) M.1 hx (Or.inl hy)) (by decide)
    · exact px S M Dt (t_setWeightX2 (d := d + 16) N hv (Or.inr (Int32.not_le.mpr hy))) (q_setWeightX2 (d := d + 17) M.1 hx (Or.inr hy)) (by decide)
    · have hnx := S.2.1.2.2.1
      have e : ∀ j, j ≠ 13 → up1 (cR c nx ch kp g w) 13 (ar 10 (fun i => nI (up1 w v b i))) j = cR c nx ch kp g w j := fun j h => up1_ne _ _ h
      have er : ∀ j, j ≠ 55 → j ≠ 57 + nx → cR c nx ch kp g w j = c j := fun j h1 h2 => (up1_ne _ _ h1).trans (up1_ne _ _ h2)
      obtain ⟨q, B⟩ := S.1.2.2.1
      have S1 : C0 (up1 (cR c nx ch kp g w) 13 (ar 10 (fun i => nI (up1 w v b i)))) n g (up1 w v b) ((nx + 1) % 8) (min (ch + 1) 8) kp (shH Hg g) (shH Hw w) Sg Sw a im fi om fo := c0_chg S (fun j h1 h2 h3 h4 h5 h6 h7 => (e j h3).trans (er j h5 h6)) ((e 12 (by decide)).trans ((er 12 (by decide) (by omega)).trans N.2.2.1)) (up1_same _ _ _) ⟨q, (e 18 (by decide)).trans ((er 18 (by decide) (by omega)).trans B.2)⟩ ((e 55 (by decide)).trans (up1_same _ _ _)) ((e _ (by omega)).trans ((up1_ne _ _ (by omega)).trans (up1_same _ _ _))) ((e 69 (by decide)).trans ((er 69 (by decide) (by omega)).trans A)) F.1.1
      refine pch M (t_setWeight (d := d + 16) N S.R5 hv b2) S1 (fun j hj => (e j (by omega)).trans (er j (by omega) (by omega))) (Dt.chg F (fun i => ?_)) (fun R X => ?_)
      · by_cases h : i = v
        · rw [h, up1_same]; exact b2
        · rw [up1_ne _ _ h]; exact Dt.1 i
      · have := q_setWeight (d := d + 17) R X hv b2
        rw [wq_shH, wq_up hv, wq_lo hv] at this
        exact this
end
