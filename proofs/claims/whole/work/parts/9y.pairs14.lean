section
variable {d m n t k : Nat} {c c' : Nat → List Value} {z : Nat → Int32} {g w g1 w1 : Nat → Nat} {x y u : Int32}
variable {nx ch kp im om : Nat} {Hg Hw Sg Sw : Nat → Nat → Nat} {a a1 fi fo : Nat → Int32}
/-- a snapshot is kept -/
theorem c0_keep {s : Nat} (S : C0 c n g w nx ch kp Hg Hw Sg Sw a im fi om fo) (hs : s < 3) (h' : ∀ i, i < 70 ∧ i ≠ 66 + s ∧ i ≠ 55 → c' i = c i) (h55 : c' 55 = paL nx ch (kp ||| 2 ^ s)) (h66 : c' (66 + s) = ar 20 (fun i => nI (sv g w i))) : C0 c' n g w nx ch (kp ||| 2 ^ s) Hg Hw (up1 Sg s g) (up1 Sw s w) a im fi om fo := by
  obtain ⟨⟨N, ⟨n2, g2, w2, P⟩, ⟨q, B⟩, ⟨kw, V, W, x1, x2, x3, x4, x5⟩, ⟨P', R', S', K⟩, SV, AN⟩, ⟨p1, p2, p3, p4, p5, p6⟩, ⟨s1, s2, s3, s4⟩, A, O, I, p, F, q2, ⟨r1, r2, r3, r4, r5⟩, r6⟩ := S
  have hk8 : kp ||| 2 ^ s < 8 := Nat.or_lt_two_pow (n := 3) s1 (Nat.pow_lt_pow_right (by decide) hs)
  refine ⟨⟨⟨(h' 0 (by omega)).trans N.1, (h' 11 (by omega)).trans N.2.1, (h' 12 (by omega)).trans N.2.2.1, (h' 13 (by omega)).trans N.2.2.2.1, N.2.2.2.2⟩, ⟨n2, g2, w2, (h' 14 (by omega)).trans P.1, (h' 15 (by omega)).trans P.2.1, (h' 16 (by omega)).trans P.2.2.1, P.2.2.2⟩, ⟨q, (h' 17 (by omega)).trans B.1, (h' 18 (by omega)).trans B.2⟩, ⟨kw, V, W, (h' 19 (by omega)).trans x1, (h' 25 (by omega)).trans x2, x3, fun i hi => (h' _ ?_).trans (x4 i hi), x5⟩, ⟨P', R', S', (h' 27 (by omega)).trans K.1, (h' 28 (by omega)).trans K.2.1, (h' 29 (by omega)).trans K.2.2.1, (h' 30 (by omega)).trans K.2.2.2⟩, SV.off (fun i hi => h' i (by omega)), fun i hi => ?_⟩, ⟨h55, (h' 56 (by omega)).trans p2, p3, p4, fun i hi => ?_, fun j hj => (h' _ (by omega)).trans (p6 j hj)⟩, ⟨hk8, (h' 65 (by omega)).trans s2, fun t ht => ?_, fun t ht hb => ?_⟩, (h' 69 (by omega)).trans A, ⟨(h' 9 (by omega)).trans O.1, (h' 10 (by omega)).trans O.2.1, O.2.2⟩, ⟨(h' 2 (by omega)).trans I.1, (h' 3 (by omega)).trans I.2.1, (h' 7 (by omega)).trans I.2.2.1, I.2.2.2⟩, p, F, q2, ⟨(h' 1 (by omega)).trans r1, (h' 4 (by omega)).trans r2, (h' 5 (by omega)).trans r3, (h' 6 (by omega)).trans r4, (h' 8 (by omega)).trans r5⟩, r6⟩
  · unfold wA; split <;> omega
  · obtain ⟨A1, b1, b2⟩ := AN i hi
    exact ⟨A1, (h' _ (by omega)).trans b1, b2⟩
  · obtain ⟨q, e2⟩ := p5 i hi
    exact ⟨q, (h' _ (by omega)).trans e2⟩
  · by_cases e : t = s
    · exact ⟨sv g w, by rw [e]; exact h66⟩
    · obtain ⟨q, e2⟩ := s3 t ht
      exact ⟨q, (h' _ (by omega)).trans e2⟩
  · by_cases e : t = s
    · rw [e, up1_same, up1_same]; exact h66
    · rw [up1_ne _ _ e, up1_ne _ _ e]
      rw [Nat.testBit_or, Nat.testBit_two_pow, decide_eq_false (fun q => e q.symm), Bool.or_false] at hb
      exact (h' _ (by omega)).trans (s4 t ht hb)
theorem rg3 (x : Int32) : (x < 0 ∨ ¬ x < 3) ∧ (x < 0 ∨ 2 < x) ∨ ∃ s, s < 3 ∧ x = nI s := by
  rcases rng x (lo := 0) (hi := 2) (by decide) (by decide) with hx | ⟨h1, h2⟩ | ⟨j, -, j2, rfl⟩
  · exact Or.inl ⟨Or.inl hx, Or.inl hx⟩
  · exact Or.inl ⟨Or.inr (Int32.not_lt.mpr h1), Or.inr h2⟩
  · exact Or.inr ⟨j, by omega, rfl⟩
theorem p_keep (I : INV c) : PAIR m_X9_keep m_X10_keep (d + 20) [.int x] (fun e => if e = 2 then 1 else 0) c := by
  obtain ⟨n, g, w, nx, ch, kp, Hg, Hw, Sg, Sw, a, im, fi, om, fo, S, M, Dt⟩ := I
  have N := S.1.1
  have F := M.1.F
  rcases rg3 x with ⟨h1, h2⟩ | ⟨s, hs, rfl⟩
  · exact px S M Dt (t_keepX (d := d + 17) h1) (q_keepX (d := d + 19) M.1 h2) (by decide)
  · obtain ⟨q, hq⟩ := S.2.2.1.2.2.1 s hs
    refine pch M (t_keep (d := d + 17) N S.2.1.1 S.2.2.1.1 S.2.2.1.2.1 hs hq) (c0_keep S hs (fun i hi => (up1_ne _ _ (by omega)).trans (up1_ne _ _ (by omega))) (up1_same _ _ _) ((up1_ne _ _ (by omega)).trans (up1_same _ _ _))) (fun i hi => (up1_ne _ _ (by omega)).trans (up1_ne _ _ (by omega))) ⟨Dt.1, Dt.2.1, fun t ht hb => ?_⟩ (fun R X => ?_)
    · by_cases e : t = s
      · rw [e, up1_same, up1_same]; exact ⟨F, Dt.1⟩
      · rw [up1_ne _ _ e, up1_ne _ _ e]
        rw [Nat.testBit_or, Nat.testBit_two_pow, decide_eq_false (fun q => e q.symm), Bool.or_false] at hb
        exact Dt.2.2 t ht hb
    · have := q_keep (d := d + 19) R X hs
      rw [wq_upS] at this
      exact this
theorem p_restore (I : INV c) : PAIR m_X9_restore m_X10_restore (d + 20) [.int x] (fun e => if e = 2 then 1 else 0) c := by
  obtain ⟨n, g, w, nx, ch, kp, Hg, Hw, Sg, Sw, a, im, fi, om, fo, S, M, Dt⟩ := I
  have N := S.1.1
  have F := M.1.F
  have hn := N.le
  have A := S.2.2.2.1
  rcases rg3 x with ⟨h1, h2⟩ | ⟨s, hs, rfl⟩
  · exact px S M Dt (t_restoreX (d := d + 17) h1) (q_restoreX (d := d + 19) M.1 h2) (by decide)
  · obtain ⟨k8, k2, k3, k4⟩ := S.2.2.1
    cases hb : kp.testBit s with
    | false => exact pch M (t_restore0 (d := d + 16) N A S.2.1.1 k8 hs hb) (c0_cA S) (fun j hj => up1_ne _ _ (by omega)) Dt (fun R X => q_restore0 (d := d + 19) R X hs hb)
    | true =>
      obtain ⟨Fs, hws⟩ := Dt.2.2 s hs hb
      have hnx := S.2.1.2.2.1
      obtain ⟨q, B⟩ := S.1.2.2.1
      have er : ∀ j, j ≠ 55 → j ≠ 57 + nx → cR c nx ch kp g w j = c j := fun j h1 h2 => (up1_ne _ _ h1).trans (up1_ne _ _ h2)
      have e : ∀ j, j ≠ 12 → j ≠ 13 → up1 (up1 (cR c nx ch kp g w) 12 (ar 10 (fun i => nI (Sg s i)))) 13 (ar 10 (fun i => nI (Sw s i))) j = cR c nx ch kp g w j := fun j h1 h2 => (up1_ne _ _ h2).trans (up1_ne _ _ h1)
      refine pch M (t_restore (d := d + 16) N S.R5 k8 k2 hs hb (k4 s hs hb) (Fs.1.k hn)) (c0_chg S (fun j h1 h2 h3 h4 h5 h6 h7 => (e j h2 h3).trans (er j h5 h6)) ((up1_ne _ _ (by decide)).trans (up1_same _ _ _)) (up1_same _ _ _) ⟨q, (e 18 (by decide) (by decide)).trans ((er 18 (by decide) (by omega)).trans B.2)⟩ ((e 55 (by decide) (by decide)).trans (up1_same _ _ _)) ((e _ (by omega) (by omega)).trans ((up1_ne _ _ (by omega)).trans (up1_same _ _ _))) ((e 69 (by decide) (by decide)).trans ((er 69 (by decide) (by omega)).trans A)) Fs.1.1) (fun j hj => (e j (by omega) (by omega)).trans (er j (by omega) (by omega))) (Dt.chg F hws) (fun R X => ?_)
      have := q_restore (d := d + 19) R X hs hb Fs (wq_99 hws)
      rw [wq_shH] at this
      exact this
theorem p_prune (I : INV c) : PAIR m_X9_prune m_X10_prune (d + 20) [.int x] (fun e => if e = 2 then 1 else 0) c := by
  obtain ⟨n, g, w, nx, ch, kp, Hg, Hw, Sg, Sw, a, im, fi, om, fo, S, M, Dt⟩ := I
  have N := S.1.1
  have F := M.1.F
  have A := S.2.2.2.1
  rcases rng x (lo := 1) (hi := 9) (by decide) (by decide) with hx | ⟨-, hx⟩ | ⟨j, j1, j2, rfl⟩
  · exact px S M Dt (t_pruneX (d := d + 16) (Or.inl hx)) (q_pruneX (d := d + 19) M.1 (Or.inl hx)) (by decide)
  · exact px S M Dt (t_pruneX (d := d + 16) (Or.inr (Int32.not_le.mpr hx))) (q_pruneX (d := d + 19) M.1 (Or.inr hx)) (by decide)
  · have hnx := S.2.1.2.2.1
    obtain ⟨q, B⟩ := S.1.2.2.1
    have er : ∀ j, j ≠ 55 → j ≠ 57 + nx → cR c nx ch kp g w j = c j := fun j h1 h2 => (up1_ne _ _ h1).trans (up1_ne _ _ h2)
    have e : ∀ i, i ≠ 12 → i ≠ 69 → up1 (up1 (cR c nx ch kp g w) 12 (ar 10 (fun i => nI (dlI g n j i)))) 69 (ar 10 (up1 a 3 (a 3 + nI j))) i = cR c nx ch kp g w i := fun i h1 h2 => (up1_ne _ _ h2).trans (up1_ne _ _ h1)
    refine pch M (t_prune (d := d + 16) N S.R5 A j1 j2) (c0_chg S (fun j h1 h2 h3 h4 h5 h6 h7 => (e j h2 h7).trans (er j h5 h6)) ((up1_ne _ _ (by decide)).trans (up1_same _ _ _)) ((e 13 (by decide) (by decide)).trans ((er 13 (by decide) (by omega)).trans N.2.2.2.1)) ⟨q, (e 18 (by decide) (by decide)).trans ((er 18 (by decide) (by omega)).trans B.2)⟩ ((e 55 (by decide) (by decide)).trans (up1_same _ _ _)) ((e _ (by omega) (by omega)).trans ((up1_ne _ _ (by omega)).trans (up1_same _ _ _))) (up1_same _ _ _) (dlI_F F j).1.1) (fun j hj => (e j (by omega) (by omega)).trans (er j (by omega) (by omega))) (Dt.chg F Dt.1) (fun R X => ?_)
    have := q_prune (d := d + 17) R X j1 j2
    rw [wq_shH] at this
    exact this
theorem p_swap (I : INV c) : PAIR m_X9_swap m_X10_swap (d + 20) [.int x, .int y] (fun e => if e = 1 then 1 else 0) c := by
  obtain ⟨n, g, w, nx, ch, kp, Hg, Hw, Sg, Sw, a, im, fi, om, fo, S, M, Dt⟩ := I
  have N := S.1.1
  have F := M.1.F
  have hn := N.le
  have A := S.2.2.2.1
  cases hx : isV n x with
  | false => exact px S M Dt (t_swapX1 (d := d + 16) N (isV_no hx)) (q_swapX (d := d + 17) M.1 (Or.inl hx)) (by decide)
  | true =>
    obtain ⟨v, hv, rfl⟩ := isV_of hx
    cases hy : isV n y with
    | false => exact px S M Dt (t_swapX2 (d := d + 16) N hv (isV_no hy)) (q_swapX (d := d + 17) M.1 (Or.inr hy)) (by decide)
    | true =>
      obtain ⟨b, hb, rfl⟩ := isV_of hy
      have FX := F.xgF hv hb
      have hnx := S.2.1.2.2.1
      obtain ⟨q, B⟩ := S.1.2.2.1
      have er : ∀ j, j ≠ 55 → j ≠ 57 + nx → cR c nx ch kp g w j = c j := fun j h1 h2 => (up1_ne _ _ h1).trans (up1_ne _ _ h2)
      have e : ∀ j, j ≠ 12 → up1 (cR c nx ch kp g w) 12 (ar 10 (fun i => nI (xg g n v b i))) j = cR c nx ch kp g w j := fun j h => up1_ne _ _ h
      refine pch M (t_swap (d := d + 16) N S.R5 hv hb FX.1.1) (c0_chg S (fun j h1 h2 h3 h4 h5 h6 h7 => (e j h2).trans (er j h5 h6)) (up1_same _ _ _) ((e 13 (by decide)).trans ((er 13 (by decide) (by omega)).trans N.2.2.2.1)) ⟨q, (e 18 (by decide)).trans ((er 18 (by decide) (by omega)).trans B.2)⟩ ((e 55 (by decide)).trans (up1_same _ _ _)) ((e _ (by omega)).trans ((up1_ne _ _ (by omega)).trans (up1_same _ _ _))) ((e 69 (by decide)).trans ((er 69 (by decide) (by omega)).trans A)) FX.1.1) (fun j hj => (e j (by omega)).trans (er j (by omega) (by omega))) (Dt.chg F Dt.1) (fun R X => ?_)
      have := q_swap (d := d + 17) R X hv hb
      rw [wq_shH, wq_fre hn] at this
      exact this
theorem rg_F {u v p : Nat} (F : FOR g n) (hn : n ≤ 10) (hu : u < n) (hv : v < n) (hp' : p < n) (hb : (g u).testBit v = true) (h : (rc g n (df (al n) (2 ^ v)) u).testBit p = false) : u ≠ p ∧ FOR (jn (pt g u v) u p) n := by
  have huv := F.1.ne hb
  have hal : al n < 2 ^ n := Nat.sub_lt (Nat.two_pow_pos n) (by decide)
  have hbit : ∀ y, (df (al n) (2 ^ v)).testBit y = true ↔ y < n ∧ y ≠ v := fun y => by
    rw [df_bit, al_bit, Nat.testBit_two_pow]
    by_cases h1 : y < n
    · by_cases h2 : v = y
      · rw [decide_eq_true h1, decide_eq_true h2]
        exact ⟨fun q => (by cases q), fun q => absurd h2.symm q.2⟩
      · rw [decide_eq_true h1, decide_eq_false h2]
        exact ⟨fun _ => ⟨h1, fun q => h2 q.symm⟩, fun _ => rfl⟩
    · rw [decide_eq_false h1]
      exact ⟨fun q => (by cases q), fun q => absurd q.1 h1⟩
  have key := rc_bit (x := p) F.1 hn (df_lt hal) hu ((hbit u).mpr ⟨hu, huv⟩)
  have no : ¬ cn g (fun y => y ≠ v) u p := fun q => by
    have := key.mpr (cn_ind q (S := fun y => cn g (fun y => (df (al n) (2 ^ v)).testBit y = true) u y) cn_rf (fun x y _ hx e ha => cn_st hx e ((hbit y).mpr ⟨F.1.lt e, ha⟩)))
    rw [h] at this; cases this
  refine ⟨fun e => no (by rw [← e]; exact cn_rf), F.ptF.jnF hu hp' (fun q => no (cn_ind q (S := fun y => cn g (fun y => y ≠ v) u y) cn_rf (fun x y _ hx e _ => ?_)))⟩
  obtain ⟨e1, e2, e3⟩ := (pt_bit F.1).mp e
  by_cases hy : y = v
  · subst hy
    have := F.2 y u x (F.1.sy hb) (F.1.sy e1) hx
    exact absurd ⟨this.symm, rfl⟩ e2
  · exact cn_st hx e1 hy
theorem p_regraft (I : INV c) : PAIR m_X9_regraft m_X10_regraft (d + 20) [.int x, .int y, .int u] (fun e => if e = 1 then 1 else 0) c := by
  obtain ⟨n, g, w, nx, ch, kp, Hg, Hw, Sg, Sw, a, im, fi, om, fo, S, M, Dt⟩ := I
  have N := S.1.1
  have F := M.1.F
  have hn := N.le
  have A := S.2.2.2.1
  cases hx : isV n x with
  | false => exact px S M Dt (t_regraftX1 (d := d + 16) N (isV_no hx)) (q_regraftX (d := d + 17) M.1 (Or.inl hx)) (by decide)
  | true =>
    obtain ⟨v, hv, rfl⟩ := isV_of hx
    cases hy : isV n y with
    | false => exact px S M Dt (t_regraftX2 (d := d + 16) N hv (isV_no hy)) (q_regraftX (d := d + 17) M.1 (Or.inr (Or.inl hy))) (by decide)
    | true =>
      obtain ⟨b, hb, rfl⟩ := isV_of hy
      cases hu : isV n u with
      | false => exact px S M Dt (t_regraftX3 (d := d + 16) N hv hb (isV_no hu)) (q_regraftX (d := d + 17) M.1 (Or.inr (Or.inr hu))) (by decide)
      | true =>
        obtain ⟨p, hp', rfl⟩ := isV_of hu
        by_cases h0 : wz g n v b p = 0
        · have h00 := h0
          unfold wz at h00
          cases e1 : (g v).testBit b with
          | false => rw [if_neg (by rw [e1]; decide)] at h00; cases h00
          | true =>
            rw [if_pos e1] at h00
            cases e2 : (rc g n (df (al n) (2 ^ b)) v).testBit p with
            | true => rw [if_pos e2] at h00; cases h00
            | false =>
              obtain ⟨hne, FJ⟩ := rg_F F hn hv hb hp' e1 e2
              refine pch M (t_regraft (d := d + 16) N S.R5 A hv hb hp' hne e1 e2) (c0_ed S FJ.1.1) (fun j hj => cE_fr S.2.1.2.2.1 hj) (Dt.chg F Dt.1) (fun R X => ?_)
              have := q_regraft (d := d + 16) R X hv hb hp' h0 FJ
              rw [wq_shH] at this
              exact this
        · exact pch M (t_regraft0 (d := d + 16) N A hv hb hp' rfl h0) (c0_cA S) (fun j hj => up1_ne _ _ (by omega)) Dt (fun R X => q_regraft0 (d := d + 16) R X hv hb hp' rfl h0)
end
