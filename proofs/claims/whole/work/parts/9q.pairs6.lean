section
variable {d m n t k : Nat} {c c' : Nat → List Value} {z : Nat → Int32} {g w : Nat → Nat} {x y u : Int32}
variable {nx ch kp im om : Nat} {Hg Hw Sg Sw : Nat → Nat → Nat} {a fi fo : Nat → Int32}
theorem syS_ok {S : vw_s} {v : Nat} (hg : ∀ i, g i < 1024) (hn : n ≤ 10) (k0 : wsOk S) (hv : v < n) : wsOk (syS g n v S) := (ob_ok hg hn k0 hv).wf (n := n) hg (show v < 10 by omega)
theorem p_symmetries (I : INV c) : PAIR m_X9_symmetries m_X10_symmetries (d + 20) [.int x] (fun e => if e = 1 then 1 else 0) c := by
  obtain ⟨n, g, w, nx, ch, kp, Hg, Hw, Sg, Sw, a, im, fi, om, fo, S, M, Dt⟩ := I
  have N := S.1.1
  have F := M.1.F
  have hn := N.le
  rcases comp_no F.1 hn x with ⟨k, l, hk, rfl, hl, hcl, hlow, hc0⟩ | ⟨h0, hno⟩
  · obtain ⟨kw, V, W, X⟩ := S.1.2.2.2.1
    have D := X.D (Or.inl rfl)
    have m9 := t_symmetries (d := d + 14) N X hc0 hlow hl
    rw [sy_ok2 F hn hl] at m9
    exact pq M Dt m9 (S.wd X.2.2.1 (syS_ok (F.1.k hn) hn D.S hl)) (fun i hi => cW_ne (by omega)) (fun R => q_symmetries (d := d + 3) R (isV_t hk) hlow hl)
  · exact px S M Dt (t_symmetriesX (d := d + 14) N h0) (q_symmetriesX (d := d + 3) M.1 (decide_eq_false (fun ⟨v, h1, h2⟩ => hno v h1 h2))) (by decide)
theorem p_component (I : INV c) : PAIR m_X9_component m_X10_component_ (d + 20) [.int x, .int y] (fun e => if e = 1 then 1 else if e = 2 then 2 else 0) c := by
  obtain ⟨n, g, w, nx, ch, kp, Hg, Hw, Sg, Sw, a, im, fi, om, fo, S, M, Dt⟩ := I
  have N := S.1.1
  have F := M.1.F
  have hn := N.le
  rcases comp_no F.1 hn x with ⟨k, l, hk, rfl, hl, hcl, hlow, hc0⟩ | ⟨h0, hno⟩
  · have hv := isV_t hk
    cases hy : isV 7 y with
    | false => exact px S M Dt (t_componentX2 (d := d + 14) N hc0 (isV_no hy)) (q_componentX2 (d := d + 15) M.1 hv (isV_no hy)) (by decide)
    | true =>
      obtain ⟨j, hj, rfl⟩ := isV_of hy
      rcases (show j = 0 ∨ j = 1 ∨ j = 2 ∨ j = 3 ∨ j = 4 ∨ j = 5 ∨ j = 6 by omega) with h | h | h | h | h | h | h <;> subst h
      · exact pq M Dt (t_component0 (d := d + 14) N hc0) S (fun _ _ => rfl) (fun R => q_component (d := d + 14) R hv (by decide) (by decide))
      · exact pq M Dt (t_component1 (d := d + 14) N hc0) S (fun _ _ => rfl) (fun R => q_component (d := d + 14) R hv (k := 1) (by decide) (by decide))
      · exact pq M Dt (t_component2 (d := d + 14) N hc0 Dt.1) S (fun _ _ => rfl) (fun R => by
          have := q_component (d := d + 14) R hv (k := 2) (by decide) (by decide)
          unfold cpv at this
          rw [if_neg (by decide), if_neg (by decide), if_pos (by decide), wq_lb] at this
          exact this)
      · exact pq M Dt (t_component3 (d := d + 14) N hc0 Dt.1) S (fun _ _ => rfl) (fun R => by
          have := q_component (d := d + 14) R hv (k := 3) (by decide) (by decide)
          unfold cpv at this
          rw [if_neg (by decide), if_neg (by decide), if_pos (by decide), wq_lb] at this
          exact this)
      · exact pq M Dt (t_component4 (d := d + 14) N hc0 Dt.1) S (fun _ _ => rfl) (fun R => by
          have := q_component (d := d + 14) R hv (k := 4) (by decide) (by decide)
          unfold cpv at this
          rw [if_neg (by decide), if_neg (by decide), if_pos (by decide), wq_lb] at this
          exact this)
      · have co := cs_all F hn
        have hkn := cnU_le (p := isR g n) n
        have co2 : csOk g n (k + 1) := fun i hi => co i (by omega)
        obtain ⟨kw, V, W, X⟩ := S.1.2.2.2.1
        have D := X.D (Or.inl rfl)
        have m9 := t_component5 (d := d + 14) N X hc0 (by omega) co2
        have ok := clU_ok (F.1.k hn) hn D.S co2 (k + 1) (Nat.le_refl _)
        have v := (clU_ok2 (w := w) (T := (V, W)) F hn (K := k + 1) (by omega) (k + 1) (Nat.le_refl _)).2.2 (by omega)
        have S2 := S.wd (k := (clU g n (V, W) (k + 1)).2.1) (by omega) ok.1
        rw [v, Nat.add_sub_cancel] at m9
        exact pq M Dt m9 S2 (fun i hi => cW_ne (by omega)) (fun R => q_component5 (d := d) R hk)
      · have m9 := t_component6 (d := d + 14) N hc0
        rw [pc_stU hn] at m9
        exact pq M Dt m9 S (fun _ _ => rfl) (fun R => q_component (d := d + 14) R hv (k := 6) (by decide) (by decide))
  · exact px S M Dt (t_componentX1 (d := d + 14) N h0) (q_componentX1 (d := d + 15) M.1 (decide_eq_false (fun ⟨v, h1, h2⟩ => hno v h1 h2))) (by decide)
end
