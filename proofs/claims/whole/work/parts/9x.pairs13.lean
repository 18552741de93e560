section
variable {d m n t k : Nat} {c c' : Nat → List Value} {z : Nat → Int32} {g w g1 w1 : Nat → Nat} {x y u : Int32}
variable {nx ch kp im om : Nat} {Hg Hw Sg Sw : Nat → Nat → Nat} {a a1 fi fo : Nat → Int32}
/-- an answer into the output -/
theorem pout {M9 M10 : ab_M} {D : Nat} {as : List Value} {kind : Nat → Nat} {v : Value} {c1 : Nat → List Value} {l : List Int32} {f0 : Nat → Int32} (M : M0 c n g w ch kp Hg Hw Sg Sw a im fi om fo) (Dt : D0 n w ch kp Hg Hw Sg Sw) (m9 : MSE M9 D (.ref 0 :: as) (hp c) (some v) (hp c1)) (S1 : C0 c1 n g w nx ch kp Hg Hw Sg Sw a im fi l.length (lay f0 0 l)) (fr : ∀ i, 69 < i → c1 i = c i) (m10 : ∀ {c1 : Nat → List Value} f, RF c1 n g (wq n w) → c1 79 = ar 400 f → ∃ c2 z1, MSE M10 D (.ref 70 :: as) (hp c1) (some v) (hp (cV c2 z1 f l)) ∧ QF c1 c2 0 ∧ c2 70 = moL z1) (hv : vt M10 v := by trivial) : PAIR M9 M10 D as kind c := by
  refine Or.inl ⟨c1, v, m9, hv, fr, fun c1' h => ?_⟩
  have M1 : M0 c1' n g w ch kp Hg Hw Sg Sw a im fi om fo := M.cls (fun i h1 h2 => (h i h2).trans (fr i h1))
  obtain ⟨f, hf⟩ : ∃ f, c1' 79 = ar 400 f := by
    obtain ⟨-, -, -, -, f2, o2, -⟩ := M1
    exact ⟨f2, o2⟩
  obtain ⟨c2, z1, m, Q, hz⟩ := m10 f M1.1 hf
  have M2 := M1.q Q
  obtain ⟨z2, hz2, h0⟩ := Q.H M1.1
  have e0 : z1 0 = nI 0 := by
    have := congrArg (fun l : List Value => l[0]?) (hz.symm.trans hz2)
    have e2 : z1 0 = z2 0 := by simpa [moL] using this
    rw [e2]; exact h0
  refine ⟨cV c2 z1 f l, m, ⟨up1 z1 24 (nI l.length), up1_same _ _ _, (up1_ne _ _ (by decide)).trans e0⟩, ⟨n, g, w, nx, ch, kp, Hg, Hw, Sg, Sw, a, im, fi, l.length, lay f0 0 l, ((S1.same (fun i hi => h i (by omega))).qf Q).same (fun i hi => (up1_ne _ _ (by omega)).trans (up1_ne _ _ (by omega))), ⟨M2.1.cV hz, M2.2.1.cV hz, M2.2.2.1.cV hz, fun z3 hz3 => ?_, lay f 0 l, (up1_ne _ _ (by decide)).trans (up1_same _ _ _), fun i hi => ?_⟩, Dt⟩, fun i hi => (up1_ne _ _ (by omega)).trans ((up1_ne _ _ (by omega)).trans (Q.B i hi))⟩
  · have e : moL z3 = moL (up1 z1 24 (nI l.length)) := hz3.symm.trans (up1_same _ _ _)
    have := congrArg (fun l : List Value => l[24]?) e
    have e2 : z3 24 = up1 z1 24 (nI l.length) 24 := by simpa [moL] using this
    rw [e2, up1_same]
  · unfold lay
    rw [if_pos ⟨by omega, by omega⟩, if_pos ⟨by omega, by omega⟩]
theorem c0_out {m : Nat} {f1 : Nat → Int32} (S : C0 c n g w nx ch kp Hg Hw Sg Sw a im fi om fo) (h : ∀ i, i ≠ 9 → i ≠ 10 → c' i = c i) (O : OB c' m f1) : C0 c' n g w nx ch kp Hg Hw Sg Sw a im fi m f1 := by
  have I := S.2.2.2.2.2.1
  obtain ⟨p, F, q, ⟨r1, r2, r3, r4, r5⟩, r6⟩ := S.2.2.2.2.2.2
  exact S.io (h 0 (by decide) (by decide)) (fun i h1 h2 => h i (by omega) (by omega)) O ⟨(h 2 (by decide) (by decide)).trans I.1, (h 3 (by decide) (by decide)).trans I.2.1, (h 7 (by decide) (by decide)).trans I.2.2.1, I.2.2.2⟩ ⟨p, F, q, ⟨(h 1 (by decide) (by decide)).trans r1, (h 4 (by decide) (by decide)).trans r2, (h 5 (by decide) (by decide)).trans r3, (h 6 (by decide) (by decide)).trans r4, (h 8 (by decide) (by decide)).trans r5⟩, r6⟩
theorem c0_cO {l : List Int32} (hl : l.length ≤ 400) {f : Nat → Int32} (S : C0 c n g w nx ch kp Hg Hw Sg Sw a im fi om fo) : C0 (cO c f l) n g w nx ch kp Hg Hw Sg Sw a im fi l.length (lay f 0 l) := c0_out S (fun i h1 h2 => cO_ne ⟨h1, h2⟩) ⟨up1_same _ _ _, (up1_ne _ _ (by decide)).trans (up1_same _ _ _), hl⟩
theorem p_writeText (I : INV c) : PAIR m_X9_writeText m_X10_writeText (d + 20) [] (fun _ => 0) c := by
  obtain ⟨n, g, w, nx, ch, kp, Hg, Hw, Sg, Sw, a, im, fi, om, fo, S, M, Dt⟩ := I
  have N := S.1.1
  have F := M.1.F
  have hl := wt_len (w := w) F N.le
  refine pout M Dt (t_writeText (d := d + 15) N S.2.2.2.2.1 Dt.1 hl) (c0_cO (by omega) S) (fun i hi => cO_ne (by omega)) (fun f R hf => ?_)
  have := q_writeText (d := d + 15) R hf
  rw [wq_wt] at this
  exact this
end
section
variable {d : Nat} {c : Nat → List Value} {x : Int32}
theorem p_writeWord (I : INV c) : PAIR m_X9_writeWord m_X10_writeWord (d + 20) [.int x] (fun e => if e = 1 then 1 else 0) c := by
  obtain ⟨n, g, w, nx, ch, kp, Hg, Hw, Sg, Sv, a, im, fi, om, fo, S, M, Dt⟩ := I
  have N := S.1.1
  have F := M.1.F
  have hn := N.le
  have O := S.2.2.2.2.1
  rcases comp_no F.1 hn x with ⟨k, l, hk, rfl, hl, hcl, hlow, hc0⟩ | ⟨h0, hno⟩
  · obtain ⟨kw, V, W, X⟩ := S.1.2.2.2.1
    have D := X.D (Or.inl rfl)
    have v := wo_ok2 (T := (V, W)) (w := w) F hn hlow hl hcl.symm
    have hlt : al20 (Sw g w n (cs g n (nI k))) < 1048576 := by
      rw [hcl]; exact al_lt2 (Sw_all F hn hl).1
    have m9 := t_writeWord (d := d + 14) N X O hc0 hlow hl v (by omega)
    have hlen : ((List.range (2 * pc (cs g n (nI k)))).map (sgn (al20 (Sw g w n (cs g n (nI k)))))).length = 2 * pc (cs g n (nI k)) := by rw [List.length_map, List.length_range]
    have hpc := pc_le (cs g n (nI k))
    have ok := wo_ok (S := (V, W)) (n := n) (s := cs g n (nI k)) (F.1.k hn) hn D.S (by rw [hlow]; show l < 10; omega)
    have S1 := (c0_out S (c' := up1 c 9 [.ref 10, .int (nI 0)]) (fun i h1 _ => up1_ne _ _ h1) O.base).wd (k := kw) X.2.2.1 ok
    refine pout M Dt m9 (c0_cO (by omega) S1) (fun i hi => (cO_ne (by omega)).trans ((cW_ne (by omega)).trans (up1_ne _ _ (by omega)))) (fun f R hf => ?_)
    have := q_writeWord (d := d + 4) R hf (isV_t hk) hlow hl hcl.symm
    rw [Sw_w (w2 := w)] at this
    exact this
  · exact px S M Dt (t_writeWordX (d := d + 14) N h0) (q_writeWordX (d := d + 4) M.1 (decide_eq_false (fun ⟨v, h1, h2⟩ => hno v h1 h2))) (by decide)
end
