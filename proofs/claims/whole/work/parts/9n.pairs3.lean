section
variable {d m n t k : Nat} {c c' : Nat → List Value} {z : Nat → Int32} {g w : Nat → Nat} {x y u : Int32}
variable {nx ch kp im om : Nat} {Hg Hw Sg Sw : Nat → Nat → Nat} {a fi fo : Nat → Int32}
theorem ob_ok {S : vw_s} {v : Nat} (hg : ∀ i, g i < 1024) (hn : n ≤ 10) (k0 : wsOk S) (hv : v < n) : wsOk (ob g n v S).1 := (obU_ok (n := n) (s := comp g n v) (x := wfX g n S v) hg (k0.wf (n := n) hg (show v < 10 by omega)) n hn).1
theorem ps_no {p q : Nat} (h : ds g n p q = none) : ps g n p q = 0 := by
  unfold ps
  rw [if_pos h]
theorem md_no {p q e : Nat} (h : ds g n p q = none ∨ ds g n p e = none) : md g n p q e = 0 := by
  unfold md
  rcases h with h | h
  · rw [ps_no h, Nat.zero_and, Nat.zero_and]
  · rw [ps_no h, Nat.and_zero]
theorem p_vertex (I : INV c) : PAIR m_X9_vertex m_X10_vertex (d + 20) [.int x, .int y] (fun e => if e = 1 then 1 else if e = 2 then 2 else 0) c := by
  obtain ⟨n, g, w, nx, ch, kp, Hg, Hw, Sg, Sw, a, im, fi, om, fo, S, M, Dt⟩ := I
  have N := S.1.1
  have F := M.1.F
  have hn := N.le
  cases hx : isV n x with
  | false => exact px S M Dt (t_vertexX1 (d := d + 18) N (isV_no hx)) (q_vertexX1 (d := d + 18) M.1 hx) (by decide)
  | true =>
    obtain ⟨v, hv, rfl⟩ := isV_of hx
    cases hy : isV 8 y with
    | false => exact px S M Dt (t_vertexX2 (d := d + 18) N hv (isV_no hy)) (q_vertexX2 (d := d + 18) M.1 hv (isV_no hy)) (by decide)
    | true =>
      obtain ⟨j, hj, rfl⟩ := isV_of hy
      rcases (show j = 0 ∨ j = 1 ∨ j = 2 ∨ j = 3 ∨ j = 4 ∨ j = 5 ∨ j = 6 ∨ j = 7 by omega) with h | h | h | h | h | h | h | h <;> subst h
      · exact pq M Dt (t_vertex0 (d := d + 17) N hv) S (fun _ _ => rfl) (fun R => q_vertex0 (d := d + 17) R hv)
      · exact pq M Dt (t_vertex1 (d := d + 17) N hv) S (fun _ _ => rfl) (fun R => by
          have := q_vertex1 (d := d + 17) R hv
          rw [wq_lo hv] at this
          exact this)
      · have hl := (rot_ok F.1 hn hv).1
        exact pq M Dt (t_vertex2 (d := d + 15) N hv hl) S (fun _ _ => rfl) (fun R => q_vertex2 (d := d + 16) R hv hl)
      · exact pq M Dt (t_vertex3 (d := d + 16) N hv) S (fun _ _ => rfl) (fun R => q_vertex3 (d := d + 16) R hv)
      · exact pq M Dt (t_vertex4 (d := d + 17) N hv) S (fun _ _ => rfl) (fun R => q_vertex4 (d := d + 16) R hv)
      · obtain ⟨r, hr, r1, r2⟩ := round_ex F hn N.one v
        obtain ⟨n2, g2, w2, P⟩ := S.1.2.1
        have hd : ∀ j, dlI g n j v < 1024 := fun j => (dlI_F F j).1.k hn v
        have m9 := t_vertex5 (d := d + 16) N hv P hr (fun j hj e => r1 j hj (pc_zero (hd j) e)) (by rw [r2]; decide)
        refine pq M Dt m9 (S.pr (fun i hi => cPr_ne (by omega)) ⟨n, dlI g n r, w, ?_, ?_, ?_, hn, (dlI_F F r).1.k hn⟩) (fun i hi => cPr_ne (by omega)) (fun R => q_vertex5 (d := d + 16) R hv hr r1 r2)
        · unfold cPr; rw [up1_ne _ _ (by decide), up1_ne _ _ (by decide)]; exact up1_same _ _ _
        · unfold cPr; rw [up1_ne _ _ (by decide)]; exact up1_same _ _ _
        · exact up1_same _ _ _
      · exact pq M Dt (t_vertex6 (d := d + 17) N hv) S (fun _ _ => rfl) (fun R => q_vertex6 (d := d + 17) R hv)
      · obtain ⟨kw, V, W, X⟩ := S.1.2.2.2.1
        have D := X.D (Or.inl rfl)
        have m9 := t_vertex7 (d := d + 15) N hv X
        rw [ob_ok2 F hn hv] at m9
        exact pq M Dt m9 (S.wd X.2.2.1 (ob_ok (F.1.k hn) hn D.S hv)) (fun i hi => cW_ne (by omega)) (fun R => q_vertex7 (d := d + 4) R hv)
theorem p_median (I : INV c) : PAIR m_X9_median m_X10_median (d + 20) [.int x, .int y, .int u] (fun e => if e = 1 then 1 else if e = 4 then 2 else 0) c := by
  obtain ⟨n, g, w, nx, ch, kp, Hg, Hw, Sg, Sw, a, im, fi, om, fo, S, M, Dt⟩ := I
  have N := S.1.1
  have F := M.1.F
  have hn := N.le
  cases hx : isV n x with
  | false => exact px S M Dt (t_medianX1 (d := d + 16) N (isV_no hx)) (q_medianX1 (d := d + 16) M.1 (Or.inl hx)) (by decide)
  | true =>
    obtain ⟨v, hv, rfl⟩ := isV_of hx
    cases hy : isV n y with
    | false => exact px S M Dt (t_medianX2 (d := d + 16) N hv (isV_no hy)) (q_medianX1 (d := d + 16) M.1 (Or.inr (Or.inl hy))) (by decide)
    | true =>
      obtain ⟨b, hb, rfl⟩ := isV_of hy
      cases hu : isV n u with
      | false => exact px S M Dt (t_medianX3 (d := d + 16) N hv hb (isV_no hu)) (q_medianX1 (d := d + 16) M.1 (Or.inr (Or.inr hu))) (by decide)
      | true =>
        obtain ⟨e, he, rfl⟩ := isV_of hu
        by_cases h : ds g n v b = none ∨ ds g n v e = none
        · exact px S M Dt (t_medianX4 (d := d + 16) N hv hb he (md_no h)) (q_medianX2 (d := d + 16) M.1 hv hb he h) (by decide)
        · have h1 : ds g n v b ≠ none := fun q => h (Or.inl q)
          have h2 : ds g n v e ≠ none := fun q => h (Or.inr q)
          obtain ⟨k, hk⟩ := md_ex F hn hv hb he h1 h2
          exact pq M Dt (t_median (d := d + 16) N hv hb he hk) S (fun _ _ => rfl) (fun R => q_median (d := d + 16) R hv hb he h1 h2 hk)
theorem p_onPath (I : INV c) : PAIR m_X9_onPath m_X10_onPath (d + 20) [.int x, .int y, .int u] (fun e => if e = 1 then 1 else if e = 4 then 2 else 0) c := by
  obtain ⟨n, g, w, nx, ch, kp, Hg, Hw, Sg, Sw, a, im, fi, om, fo, S, M, Dt⟩ := I
  have N := S.1.1
  have F := M.1.F
  have hn := N.le
  cases hx : isV n x with
  | false => exact px S M Dt (t_onPathX1 (d := d + 15) N (isV_no hx)) (q_onPathX1 (d := d + 16) M.1 (Or.inl hx)) (by decide)
  | true =>
    obtain ⟨v, hv, rfl⟩ := isV_of hx
    cases hy : isV n y with
    | false => exact px S M Dt (t_onPathX2 (d := d + 15) N hv (isV_no hy)) (q_onPathX1 (d := d + 16) M.1 (Or.inr hy)) (by decide)
    | true =>
      obtain ⟨b, hb, rfl⟩ := isV_of hy
      have no : (ds g n v b = none ∨ ∃ L, ds g n v b = some L ∧ ∀ s, s ≤ L → u ≠ nI s) → PAIR m_X9_onPath m_X10_onPath (d + 20) [.int (nI v), .int (nI b), .int u] (fun e => if e = 1 then 1 else if e = 4 then 2 else 0) c := fun h =>
        px S M Dt (t_onPathX4 (d := d + 15) N hv hb (pv_none F.1 hn hv hb h)) (q_onPathX2 (d := d + 16) M.1 hv hb h) (by decide)
      cases hd : ds g n v b with
      | none => exact no (Or.inl hd)
      | some L =>
        cases hs : isV (L + 1) u with
        | false => exact no (Or.inr ⟨L, hd, fun s h => isV_no hs s (by omega)⟩)
        | true =>
          obtain ⟨s, h, rfl⟩ := isV_of hs
          obtain ⟨k, hk, hp', -⟩ := pv_some F.1 hn hv hb hd (show s ≤ L by omega)
          exact pq M Dt (t_onPath (d := d + 15) N hv hb hp') S (fun _ _ => rfl) (fun R => q_onPath (d := d + 16) R hv hb hd (by omega) hp')
end
