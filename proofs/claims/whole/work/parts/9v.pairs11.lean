section
variable {d m n t k : Nat} {c c' : Nat → List Value} {z : Nat → Int32} {g w g1 w1 : Nat → Nat} {x y u : Int32}
theorem p_outputByte (I : INV c) : PAIR m_X9_outputByte m_X10_outputByte (d + 20) [.int x] (fun e => if e = 4 then 1 else 0) c := by
  obtain ⟨n, g, w, nx, ch, kp, Hg, Hw, Sg, Sw, a, im, fi, om, fo, S, M, Dt⟩ := I
  have O := S.2.2.2.2.1
  have hm := O.2.2
  obtain ⟨R, X, I1, o1, f2, o2, o3⟩ := id M
  obtain ⟨z, hz, -⟩ := R.Z
  have h24 := o1 z hz
  cases hx : isV om x with
  | true =>
    obtain ⟨i, hi, rfl⟩ := isV_of hx
    exact pqM M Dt (t_outputByte (d := d + 19) S.1.1.1 O hi) S (fun _ _ => rfl) (fun M1 => by
      obtain ⟨R, X, I1, o1, f2, o2, o3⟩ := M1
      obtain ⟨z, hz, -⟩ := R.Z
      have := q_outputByte (d := d + 19) R hz (o1 z hz) hm o2 hi
      rw [o3 i hi] at this
      exact this)
  | false =>
    refine px S M Dt (t_outputByteX (d := d + 19) S.1.1.1 O ?_) (q_outputByteX (d := d + 19) R hz h24 hm hx) (by decide)
    rcases pk_ix x (n := om) (by omega) with e | e | ⟨j, hj, e⟩
    · exact Or.inl e
    · exact Or.inr (Int32.not_lt.mpr e)
    · exact absurd e (isV_no hx j hj)
end
