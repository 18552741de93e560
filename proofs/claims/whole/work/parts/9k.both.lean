section
variable {d m n t k : Nat} {c c' : Nat → List Value} {z : Nat → Int32} {g w : Nat → Nat} {x y : Int32}
/-! weights beyond the vertices aren't seen -/
theorem wq_lo {i : Nat} (h : i < n) : wq n w i = w i := if_pos h
theorem wq_99 (h : ∀ i, w i ≤ 99) : ∀ i, wq n w i ≤ 99 := fun i => by
  unfold wq
  split
  · exact h i
  · exact Nat.zero_le _
theorem wq_sm {s : Nat} : smU s (wq n w) n = smU s w n := smU_ext n (fun i hi _ => wq_lo hi)
theorem wq_gp {v : Nat} {b : Bool} : gp g (wq n w) n v b = gp g w n v b := by
  unfold gp
  refine mxU_ext n (fun u _ _ => ?_)
  split
  · exact wq_sm
  · rfl
theorem wq_ms {j v : Nat} : ms g (wq n w) n j v = ms g w n j v := by
  unfold ms
  split
  · rfl
  · exact wq_gp
theorem wq_lb {s j : Nat} : lbU s (ms g (wq n w) n j) n = lbU s (ms g w n j) n := lbU_ext n (fun i _ _ => wq_ms)
theorem wq_fre {g1 : Nat → Nat} (hn : n ≤ 10) : fre g g1 (wq n w) n = fre g g1 w n := by
  unfold fre
  exact congrArg (fun k => k / 2) (tsU_ext n (fun i hi => by
    show pc (df (g1 i) (sv g (wq n w) i)) = pc (df (g1 i) (sv g w i))
    rw [sv_lo (by omega), sv_lo (by omega)]))
theorem wq_ww : ∀ k, k ≤ n → wwA (wq n w) k = wwA w k
  | 0, _ => rfl
  | k + 1, hk => by
    show wwA (wq n w) k ++ (if wq n w k = 1 then [] else stL 5 k (some (wq n w k))) = wwA w k ++ (if w k = 1 then [] else stL 5 k (some (w k)))
    rw [wq_ww k (by omega), wq_lo (show k < n by omega)]
theorem wq_wt : wtL g (wq n w) n = wtL g w n := by
  unfold wtL
  rw [wq_ww n (Nat.le_refl n)]
theorem wq_wq : wq n (wq n w) = wq n w := funext fun i => by
  unfold wq
  by_cases h : i < n
  · rw [if_pos h, if_pos h]
  · rw [if_neg h, if_neg h]
theorem wq_shH {Hw : Nat → Nat → Nat} : shH (fun j => wq n (Hw j)) (wq n w) = fun j => wq n (shH Hw w j) := funext fun j => by
  cases j <;> rfl
theorem wq_upS {Sw : Nat → Nat → Nat} {s : Nat} : up1 (fun j => wq n (Sw j)) s (wq n w) = fun j => wq n (up1 Sw s w j) := funext fun j => by
  by_cases e : j = s
  · rw [e, up1_same, up1_same]
  · rw [up1_ne _ _ e, up1_ne _ _ e]
/-! the state of the class and of the reference -/
def C0 (c : Nat → List Value) (n : Nat) (g w : Nat → Nat) (nx ch kp : Nat) (Hg Hw Sg Sw : Nat → Nat → Nat) (a : Nat → Int32) (im : Nat) (fi : Nat → Int32) (om : Nat) (fo : Nat → Int32) : Prop :=
  (NB c n g w ∧ (∃ n2 g2 w2, PB c n2 g2 w2) ∧ (∃ q, CB c q) ∧ (∃ k V W, WX 19 c k V W) ∧ (∃ P R S, KB c P R S) ∧ SVB c ∧ ANS c) ∧
  (c 55 = paL nx ch kp ∧ c 56 = rgL ∧ nx < 8 ∧ ch ≤ 8 ∧ (∀ i, i < 8 → ∃ q : Nat → Nat, c (57 + i) = ar 20 (fun j => nI (q j))) ∧ ∀ j, j < ch → c (57 + (nx + 7 - j) % 8) = ar 20 (fun i => nI (sv (Hg j) (Hw j) i))) ∧
  (kp < 8 ∧ c 65 = snL ∧ (∀ s, s < 3 → ∃ q : Nat → Nat, c (66 + s) = ar 20 (fun j => nI (q j))) ∧ ∀ s, s < 3 → kp.testBit s = true → c (66 + s) = ar 20 (fun i => nI (sv (Sg s) (Sw s) i))) ∧
  AB c a ∧ OB c om fo ∧ RB c im fi ∧ ∃ p F q, RD c p F q ∧ FS F ∧ 1 ≤ F.1
def M0 (c : Nat → List Value) (n : Nat) (g w : Nat → Nat) (ch kp : Nat) (Hg Hw Sg Sw : Nat → Nat → Nat) (a : Nat → Int32) (im : Nat) (fi : Nat → Int32) (om : Nat) (fo : Nat → Int32) : Prop :=
  RF c n g (wq n w) ∧ HF c ch kp Hg (fun j => wq n (Hw j)) Sg (fun s => wq n (Sw s)) a ∧ IF c im fi ∧ (∀ z, c 70 = moL z → z 24 = nI om) ∧ ∃ f2, c 79 = ar 400 f2 ∧ ∀ i, i < om → f2 i = fo i
def D0 (n : Nat) (w : Nat → Nat) (ch kp : Nat) (Hg Hw Sg Sw : Nat → Nat → Nat) : Prop := (∀ i, w i ≤ 99) ∧ (∀ j, j < ch → FOR (Hg j) n ∧ ∀ i, Hw j i ≤ 99) ∧ ∀ s, s < 3 → kp.testBit s = true → FOR (Sg s) n ∧ ∀ i, Sw s i ≤ 99
variable {nx ch kp im om : Nat} {Hg Hw Sg Sw : Nat → Nat → Nat} {a fi fo : Nat → Int32}
theorem C0.same (S : C0 c n g w nx ch kp Hg Hw Sg Sw a im fi om fo) (h : ∀ i, i < 70 → c' i = c i) : C0 c' n g w nx ch kp Hg Hw Sg Sw a im fi om fo := by
  obtain ⟨⟨N, ⟨n2, g2, w2, P⟩, ⟨q, B⟩, ⟨kw, V, W, x1, x2, x3, x4, x5⟩, ⟨P', R', S', K⟩, SV, AN⟩, ⟨p1, p2, p3, p4, p5, p6⟩, ⟨s1, s2, s3, s4⟩, A, O, I, p, F, q2, ⟨r1, r2, r3, r4, r5⟩, r6⟩ := S
  refine ⟨⟨⟨(h 0 (by decide)).trans N.1, (h 11 (by decide)).trans N.2.1, (h 12 (by decide)).trans N.2.2.1, (h 13 (by decide)).trans N.2.2.2.1, N.2.2.2.2⟩, ⟨n2, g2, w2, (h 14 (by decide)).trans P.1, (h 15 (by decide)).trans P.2.1, (h 16 (by decide)).trans P.2.2.1, P.2.2.2⟩, ⟨q, (h 17 (by decide)).trans B.1, (h 18 (by decide)).trans B.2⟩, ⟨kw, V, W, (h 19 (by decide)).trans x1, (h 25 (by decide)).trans x2, x3, fun i hi => (h _ ?_).trans (x4 i hi), x5⟩, ⟨P', R', S', (h 27 (by decide)).trans K.1, (h 28 (by decide)).trans K.2.1, (h 29 (by decide)).trans K.2.2.1, (h 30 (by decide)).trans K.2.2.2⟩, SV.off (fun i hi => h i (by omega)), fun i hi => ?_⟩, ⟨(h 55 (by decide)).trans p1, (h 56 (by decide)).trans p2, p3, p4, fun i hi => ?_, fun j hj => (h _ ?_).trans (p6 j hj)⟩, ⟨s1, (h 65 (by decide)).trans s2, fun s hs => ?_, fun s hs hb => (h _ (by omega)).trans (s4 s hs hb)⟩, (h 69 (by decide)).trans A, ⟨(h 9 (by decide)).trans O.1, (h 10 (by decide)).trans O.2.1, O.2.2⟩, ⟨(h 2 (by decide)).trans I.1, (h 3 (by decide)).trans I.2.1, (h 7 (by decide)).trans I.2.2.1, I.2.2.2⟩, p, F, q2, ⟨(h 1 (by decide)).trans r1, (h 4 (by decide)).trans r2, (h 5 (by decide)).trans r3, (h 6 (by decide)).trans r4, (h 8 (by decide)).trans r5⟩, r6⟩
  · unfold wA; split <;> omega
  · obtain ⟨A1, a1, a2⟩ := AN i hi
    exact ⟨A1, (h _ (by omega)).trans a1, a2⟩
  · obtain ⟨q, e⟩ := p5 i hi
    exact ⟨q, (h _ (by omega)).trans e⟩
  · omega
  · obtain ⟨q, e⟩ := s3 s hs
    exact ⟨q, (h _ (by omega)).trans e⟩
theorem M0.q (M : M0 c n g w ch kp Hg Hw Sg Sw a im fi om fo) (Q : QF c c' t) : M0 c' n g w ch kp Hg Hw Sg Sw a im fi om fo := by
  obtain ⟨R, X, I, o1, f2, o2, o3⟩ := M
  obtain ⟨z, hz, -⟩ := R.Z
  refine ⟨R.q Q, X.q Q, I.q Q, fun z' hz' => ?_, f2, (Q.1 79 (by decide) (by decide) (by decide) (by decide) (by decide) (by decide)).trans o2, o3⟩
  obtain ⟨-, -, x, q3⟩ := Q
  rw [hz, moS10, moS0] at q3
  have e : moL z' = moL (up1 (up1 z 10 x) 0 (nI t)) := hz'.symm.trans q3
  have := congrArg (fun l : List Value => l[24]?) e
  have e2 : z' 24 = z 24 := by simpa [moL, up1] using this
  rw [e2]; exact o1 z hz
theorem C0.qf (S : C0 c n g w nx ch kp Hg Hw Sg Sw a im fi om fo) (Q : QF c c' t) : C0 c' n g w nx ch kp Hg Hw Sg Sw a im fi om fo := S.same (fun i hi => Q.1 i (by omega) (by omega) (by omega) (by omega) (by omega) (by omega))
/-- a change of the class's places leaves the reference -/
theorem M0.cls (M : M0 c n g w ch kp Hg Hw Sg Sw a im fi om fo) (h : ∀ i, 69 < i → i < 82 → c' i = c i) : M0 c' n g w ch kp Hg Hw Sg Sw a im fi om fo := by
  obtain ⟨R, X, I, o1, f2, o2, o3⟩ := M
  obtain ⟨z, hz, -⟩ := R.Z
  have hz' : c' 70 = moL z := (h 70 (by decide) (by decide)).trans hz
  refine ⟨R.same (R.S.same (fun i hi => h i (by omega) (by omega))) (h 71 (by decide) (by decide)) hz hz' rfl rfl, X.same (fun i hi => h i (by omega) (by omega)) hz hz' rfl rfl, ⟨⟨z, hz', I.zz hz⟩, (h 77 (by decide) (by decide)).trans I.2.1, I.2.2⟩, fun z2 hz2 => o1 z2 ((h 70 (by decide) (by decide)).symm.trans hz2), f2, (h 79 (by decide) (by decide)).trans o2, o3⟩
end
