section
variable {d m n t k : Nat} {c c' : Nat → List Value} {z : Nat → Int32} {g w : Nat → Nat} {x y u : Int32}
variable {nx ch kp im om : Nat} {Hg Hw Sg Sw : Nat → Nat → Nat} {a fi fo : Nat → Int32}
theorem cs_all (F : FOR g n) (hn : n ≤ 10) : csOk g n (cnU (isR g n) n) := fun k hk => by
  rcases comp_no F.1 hn (nI k) with ⟨k', l, h1, h2, h3, h4, h5, -⟩ | ⟨-, h1⟩
  · exact ⟨l, h5, h3⟩
  · exact absurd rfl (h1 k hk)
theorem p_forest (I : INV c) : PAIR m_X9_forest m_X10_forest (d + 20) [.int x] (fun _ => 0) c := by
  obtain ⟨n, g, w, nx, ch, kp, Hg, Hw, Sg, Sw, a, im, fi, om, fo, S, M, Dt⟩ := I
  have N := S.1.1
  have F := M.1.F
  have hn := N.le
  have he := Nat.le_of_lt (ed_lt F N.one hn)
  cases hx : isV 9 x with
  | false => exact pq M Dt (t_forest9 (d := d + 20) (isV_no hx)) S (fun _ _ => rfl) (fun R => q_forest9 (d := d + 17) R (isV_no hx))
  | true =>
    obtain ⟨j, hj, rfl⟩ := isV_of hx
    rcases (show j = 0 ∨ j = 1 ∨ j = 2 ∨ j = 3 ∨ j = 4 ∨ j = 5 ∨ j = 6 ∨ j = 7 ∨ j = 8 by omega) with h | h | h | h | h | h | h | h | h <;> subst h
    · exact pq M Dt (t_forest0 (d := d + 20) N) S (fun _ _ => rfl) (fun R => q_forest0 (d := d + 17) R)
    · exact pq M Dt (t_forest1 (d := d + 18) N) S (fun _ _ => rfl) (fun R => q_forest1 (d := d + 17) R)
    · exact pq M Dt (t_forest2 (d := d + 17) N he) S (fun _ _ => rfl) (fun R => q_forest2 (d := d + 16) R)
    · exact pq M Dt (t_forest3 (d := d + 17) N) S (fun _ _ => rfl) (fun R => q_forest3 (d := d + 16) R)
    · exact pq M Dt (t_forest4 (d := d + 17) N) S (fun _ _ => rfl) (fun R => q_forest4 (d := d + 16) R)
    · exact pq M Dt (t_forest5 (d := d + 17) N Dt.1) S (fun _ _ => rfl) (fun R => by
        have := q_forest5 (d := d + 16) R
        rw [wq_sm] at this
        exact this)
    · have er := ed_roots F hn
      have hlt := ed_lt F N.one hn
      obtain ⟨K, hK⟩ : ∃ K, cnU (isR g n) n = K + 1 := ⟨cnU (isR g n) n - 1, by omega⟩
      have co := cs_all F hn
      rw [hK] at co er
      obtain ⟨kw, V, W, X⟩ := S.1.2.2.2.1
      have D := X.D (Or.inl rfl)
      have m9 := t_forest6 (d := d + 14) N X er co
      have ok := clU_ok (F.1.k hn) hn D.S co (K + 1) (Nat.le_refl _)
      have v := (clU_ok2 (w := w) (T := (V, W)) F hn (K := K + 1) (by omega) (K + 1) (Nat.le_refl _)).2.1
      have S2 := S.wd (k := (clU g n (V, W) (K + 1)).2.1) (by omega) ok.1
      rw [v] at m9 S2
      exact pq M Dt m9 S2 (fun i hi => cW_ne (by omega)) (fun R => by
        have := q_forest6 (d := d + 3) R
        rw [hK] at this
        exact this)
    · exact pqM M Dt (t_forest7 (d := d + 20) N S.2.1.1) S (fun _ _ => rfl) (fun M1 => by
        obtain ⟨z, hz, -, h8⟩ := M1.2.1.M
        have := q_forest7 (d := d + 17) M1.1 hz
        rw [h8] at this
        exact this)
    · exact pqM M Dt (t_forest8 (d := d + 20) N S.2.1.1) S (fun _ _ => rfl) (fun M1 => by
        obtain ⟨z, hz, h7, -⟩ := M1.2.1.M
        have := q_forest8 (d := d + 17) M1.1 hz
        rw [h7] at this
        exact this)
end
