section
variable {d n t ch kp : Nat} {c c' c'' : Nat → List Value} {g w g1 w1 : Nat → Nat} {z : Nat → Int32} {x y : Int32} {a : Nat → Int32} {Hg Hw Sg Sw : Nat → Nat → Nat}
/-! the reference's past, its snapshots and accounts; what a change changes -/
def cpO (f o : Nat → Nat) (b k i : Nat) : Nat := if b ≤ i ∧ i < b + k then f (i - b) else o i
theorem cpO_0 {f o : Nat → Nat} {b : Nat} : cpO f o b 0 = o := funext fun i => if_neg (by omega)
theorem cpO_in {f o : Nat → Nat} {b k i : Nat} (h1 : b ≤ i) (h2 : i < b + k) : cpO f o b k i = f (i - b) := if_pos ⟨h1, h2⟩
theorem cpO_out {f o : Nat → Nat} {b k i : Nat} (h : i < b ∨ b + k ≤ i) : cpO f o b k i = o i := if_neg (by omega)
theorem cpO_s {f o : Nat → Nat} {b k : Nat} : up1 (cpO f o b k) (b + k) (f k) = cpO f o b (k + 1) := funext fun i => by
  by_cases e : i = b + k
  · subst e
    rw [up1_same, cpO_in (by omega) (by omega), show b + k - b = k by omega]
  · rw [up1_ne _ _ e]
    by_cases h : b ≤ i ∧ i < b + k
    · rw [cpO_in h.1 h.2, cpO_in h.1 (by omega)]
    · rw [cpO_out (by omega), cpO_out (by omega)]
def shH (H : Nat → Nat → Nat) (r : Nat → Nat) : Nat → Nat → Nat
  | 0 => r
  | j + 1 => H j
def HF (c : Nat → List Value) (ch kp : Nat) (Hg Hw Sg Sw : Nat → Nat → Nat) (a : Nat → Int32) : Prop := ch ≤ 8 ∧ kp < 8 ∧ (∃ z : Nat → Int32, c 70 = moL z ∧ z 7 = nI ch ∧ z 8 = nI kp) ∧ (∃ f : Nat → Nat, c 73 = ar 160 (fun i => nI (f i)) ∧ ∀ j i, j < ch → i < 20 → f (20 * (ch - 1 - j) + i) = sv (Hg j) (Hw j) i) ∧ (∃ f : Nat → Nat, c 74 = ar 60 (fun i => nI (f i)) ∧ ∀ s i, s < 3 → kp.testBit s = true → i < 20 → f (20 * s + i) = sv (Sg s) (Sw s) i) ∧ c 75 = ar 10 a
def fr70 (i : Nat) : Prop := i < 70 ∨ i = 77 ∨ i = 79 ∨ 81 < i
def KF (c c' : Nat → List Value) : Prop := (∀ i, fr70 i → c' i = c i) ∧ ∀ z, c 70 = moL z → ∃ z', c' 70 = moL z' ∧ ∀ i, i ≠ 7 → i ≠ 8 → i ≠ 10 → z' i = z i
def CF (c c' : Nat → List Value) (t : Nat) : Prop := (∀ i, fr70 i → c' i = c i) ∧ ∀ z, c 70 = moL z → ∃ z', c' 70 = moL z' ∧ z' 0 = nI t ∧ ∀ i, i ≠ 0 → i ≠ 7 → i ≠ 8 → i ≠ 10 → z' i = z i
theorem KF.tr (A : KF c c') (B : KF c' c'') : KF c c'' := ⟨fun i hi => (B.1 i hi).trans (A.1 i hi), fun z hz => by
  obtain ⟨z1, h1, h2⟩ := A.2 z hz
  obtain ⟨z2, h3, h4⟩ := B.2 z1 h1
  exact ⟨z2, h3, fun i p q r => (h4 i p q r).trans (h2 i p q r)⟩⟩
theorem CF.k (A : CF c c' t) (B : KF c' c'') : CF c c'' t := ⟨fun i hi => (B.1 i hi).trans (A.1 i hi), fun z hz => by
  obtain ⟨z1, h1, h0, h2⟩ := A.2 z hz
  obtain ⟨z2, h3, h4⟩ := B.2 z1 h1
  exact ⟨z2, h3, (h4 0 (by decide) (by decide) (by decide)).trans h0, fun i o p q r => (h4 i p q r).trans (h2 i o p q r)⟩⟩
theorem fr_ne {i j : Nat} (h : fr70 i) (hj : j = 70 ∨ j = 71 ∨ j = 72 ∨ j = 73 ∨ j = 74 ∨ j = 75 ∨ j = 76 ∨ j = 78 ∨ j = 80 ∨ j = 81) : i ≠ j := by
  unfold fr70 at h
  omega
theorem QF.C (Q : QF c c' t) : CF c c' t := by
  obtain ⟨q1, -, x, q3⟩ := Q
  refine ⟨fun i h => q1 i (fr_ne h (by decide)) (fr_ne h (by decide)) (fr_ne h (by decide)) (fr_ne h (by decide)) (fr_ne h (by decide)) (fr_ne h (by decide)), fun z hz => ⟨up1 (up1 z 10 x) 0 (nI t), by rw [q3, hz, moS10, moS0], up1_same _ _ _, fun i p _ _ s => by rw [up1_ne _ _ p, up1_ne _ _ s]⟩⟩
theorem QF.K (Q : QF c c' t) (h0 : ∀ z, c 70 = moL z → z 0 = nI t) : KF c c' := by
  obtain ⟨q1, -, x, q3⟩ := Q
  refine ⟨fun i h => q1 i (fr_ne h (by decide)) (fr_ne h (by decide)) (fr_ne h (by decide)) (fr_ne h (by decide)) (fr_ne h (by decide)) (fr_ne h (by decide)), fun z hz => ⟨up1 (up1 z 10 x) 0 (nI t), by rw [q3, hz, moS10, moS0], fun i _ _ s => ?_⟩⟩
  by_cases e : i = 0
  · rw [e, up1_same, h0 z hz]
  · rw [up1_ne _ _ e, up1_ne _ _ s]
theorem SC.same (S : SC c) (h : ∀ i, i = 72 ∨ i = 76 ∨ i = 78 ∨ i = 80 ∨ i = 81 → c' i = c i) : SC c' :=
  ⟨by rw [h 72 (by decide)]; exact S.1, by rw [h 76 (by decide)]; exact S.2.1, by rw [h 78 (by decide)]; exact S.2.2.1, by rw [h 80 (by decide)]; exact S.2.2.2.1, by rw [h 81 (by decide)]; exact S.2.2.2.2⟩
theorem KF.up {i : Nat} {v : List Value} (h : i = 71 ∨ i = 72 ∨ i = 73 ∨ i = 74 ∨ i = 75 ∨ i = 76 ∨ i = 78) : KF c (up1 c i v) :=
  ⟨fun j hj => up1_ne _ _ (fr_ne hj (by omega)), fun z hz => ⟨z, (up1_ne _ _ (by omega)).trans hz, fun _ _ _ _ => rfl⟩⟩
theorem KF.rfl' : KF c c := ⟨fun _ _ => rfl, fun z hz => ⟨z, hz, fun _ _ _ _ => rfl⟩⟩
theorem KF.zz (hz : c 70 = moL z) {i : Nat} (hi : i = 7 ∨ i = 8 ∨ i = 10) : KF c (up1 c 70 (moL (up1 z i x))) :=
  ⟨fun j hj => up1_ne _ _ (fr_ne hj (by decide)), fun z' hz' => ⟨up1 z' i x, by
    rw [up1_same]
    rw [hz'] at hz
    have e : (moL z').set i (.int x) = (moL z).set i (.int x) := by rw [hz]
    rcases hi with h | h | h <;> subst h <;> exact e.symm, fun j h1 h2 h3 => up1_ne _ _ (by omega)⟩⟩
theorem moS7 : (moL z).set 7 (.int x) = moL (up1 z 7 x) := rfl
theorem moS8 : (moL z).set 8 (.int x) = moL (up1 z 8 x) := rfl
theorem GR.out (G : GR g n) {i : Nat} (h : n ≤ i) : g i = 0 := Nat.eq_of_testBit_eq fun j => by
  rw [Nat.zero_testBit]
  cases e : (g i).testBit j with
  | false => rfl
  | true => have := G.lt' e; omega
/-- the present row -/
def cN (c : Nat → List Value) (g w : Nat → Nat) : Nat → List Value := up1 c 71 (ar 20 (fun i => nI (sv g w i)))
theorem cN_H : (hp (cN c g w))[71]? = some (100, ar 20 (fun i => nI (sv g w i))) := hp_is 71 100 (up1_same _ _ _) (by decide) (by decide)
theorem cN_s : (hp (cN c g w)).set 71 (100, ar 20 (fun i => nI (sv g1 w1 i))) = hp (cN c g1 w1) := by
  unfold cN
  rw [hp_set (by decide) (by decide), up1_up1]
theorem cN_M (hz : c 70 = moL z) : (hp (cN c g w))[70]? = some (10, moL z) := mo_H ((up1_ne _ _ (by decide)).trans hz)
theorem RF.now (R : RF c n g w) (F : FOR g1 n) (hw : ∀ i, w1 i ≤ 99) : RF (cN c g1 w1) n g1 w1 := by
  obtain ⟨z, h1, h2⟩ := R.Z
  exact ⟨F, R.one, R.le, hw, R.S.same (fun i hi => up1_ne _ _ (by omega)), up1_same _ _ _, z, (up1_ne _ _ (by decide)).trans h1, h2⟩
theorem RF.same (R : RF c n g w) (S : SC c') (h1 : c' 71 = c 71) (hz : c 70 = moL z) {z' : Nat → Int32} (h2 : c' 70 = moL z') (h9 : z' 9 = z 9) (h6 : z' 6 = z 6) : RF c' n g w := by
  obtain ⟨z0, r1, r2, r3⟩ := R.Z
  have e : moL z = moL z0 := hz.symm.trans r1
  have e9 : z 9 = z0 9 := by have := congrArg (fun l : List Value => l[9]?) e; simpa [moL] using this
  have e6 : z 6 = z0 6 := by have := congrArg (fun l : List Value => l[6]?) e; simpa [moL] using this
  exact ⟨R.F, R.one, R.le, R.w99, S, h1.trans R.row, z', h2, by rw [h9, e9]; exact r2, by rw [h6, e6]; exact r3⟩
theorem HF.same (X : HF c ch kp Hg Hw Sg Sw a) (h : ∀ i, i = 73 ∨ i = 74 ∨ i = 75 → c' i = c i) (hz : c 70 = moL z) {z' : Nat → Int32} (h2 : c' 70 = moL z') (h7 : z' 7 = z 7) (h8 : z' 8 = z 8) : HF c' ch kp Hg Hw Sg Sw a := by
  obtain ⟨x1, x2, ⟨z0, r1, r2, r3⟩, x4, x5, x6⟩ := X
  have e : moL z = moL z0 := hz.symm.trans r1
  have e7 : z 7 = z0 7 := by have := congrArg (fun l : List Value => l[7]?) e; simpa [moL] using this
  have e8 : z 8 = z0 8 := by have := congrArg (fun l : List Value => l[8]?) e; simpa [moL] using this
  exact ⟨x1, x2, ⟨z', h2, by rw [h7, e7]; exact r2, by rw [h8, e8]; exact r3⟩, by rw [h 73 (by decide)]; exact x4, by rw [h 74 (by decide)]; exact x5, by rw [h 75 (by decide)]; exact x6⟩
theorem HF.up (X : HF c ch kp Hg Hw Sg Sw a) {i : Nat} {v : List Value} (h : i = 71 ∨ i = 72 ∨ i = 76 ∨ i = 78) : HF (up1 c i v) ch kp Hg Hw Sg Sw a := by
  obtain ⟨z, h1, -⟩ := X.2.2.1
  exact X.same (fun j hj => up1_ne _ _ (by omega)) h1 ((up1_ne _ _ (by omega)).trans h1) rfl rfl
theorem HF.q (X : HF c ch kp Hg Hw Sg Sw a) (Q : QF c c' t) : HF c' ch kp Hg Hw Sg Sw a := by
  obtain ⟨z, h1, -⟩ := X.2.2.1
  obtain ⟨q1, -, x, q3⟩ := Q
  rw [h1, moS10, moS0] at q3
  exact X.same (fun j hj => q1 j (by omega) (by omega) (by omega) (by omega) (by omega) (by omega)) h1 q3 rfl rfl
theorem HF.cnt (X : HF c ch kp Hg Hw Sg Sw a) {a' : Nat → Int32} : HF (up1 c 75 (ar 10 a')) ch kp Hg Hw Sg Sw a' := by
  obtain ⟨x1, x2, ⟨z, h1, h2⟩, x4, x5, x6⟩ := X
  exact ⟨x1, x2, ⟨z, (up1_ne _ _ (by decide)).trans h1, h2⟩, by rw [up1_ne _ _ (by decide)]; exact x4, by rw [up1_ne _ _ (by decide)]; exact x5, up1_same _ _ _⟩
theorem RF.up (R : RF c n g w) {i : Nat} {v : List Value} (h : i ≠ 70 ∧ i ≠ 71 ∧ i ≠ 72 ∧ i ≠ 76 ∧ i ≠ 78 ∧ i ≠ 80 ∧ i ≠ 81) : RF (up1 c i v) n g w := by
  obtain ⟨z, h1, h2⟩ := R.Z
  exact R.same (R.S.off (by omega)) (up1_ne _ _ (by omega)) h1 ((up1_ne _ _ (by omega)).trans h1) rfl rfl
theorem RF.up2 (R : RF c n g w) {i : Nat} {v : List Value} (h : i = 72 ∨ i = 76 ∨ i = 78) (S : SC (up1 c i v)) : RF (up1 c i v) n g w := by
  obtain ⟨z, h1, h2⟩ := R.Z
  exact R.same S (up1_ne _ _ (by omega)) h1 ((up1_ne _ _ (by omega)).trans h1) rfl rfl
theorem HF.M (X : HF c ch kp Hg Hw Sg Sw a) : ∃ z, c 70 = moL z ∧ z 7 = nI ch ∧ z 8 = nI kp := X.2.2.1
theorem HF.A (X : HF c ch kp Hg Hw Sg Sw a) : (hp c)[75]? = some (100, ar 10 a) := hp_is 75 100 X.2.2.2.2.2 (by decide) (by decide)
theorem r_counts (X : HF c ch kp Hg Hw Sg Sw a) {i : Nat} (hi : i < 10) : MSE m_X10_counts d [.ref 70, .int (nI i), .int x] (hp c) (some (.int x)) (hp (up1 c 75 (ar 10 (up1 a i (a i + 1))))) := by
  obtain ⟨z, h1, -⟩ := X.M
  exact e_X10_counts (b_X10_counts_0 (mo_H h1) rfl X.A (nI_pos (by omega)) (acc_at hi) X.A (nI_pos (by omega)) (acc_ln hi) ⟨rfl, by rw [acc_set hi, hp_set (by decide) (by decide)]⟩)
/-- a row of twenty into the kept ones -/
theorem r_rem2 {f : Nat → Nat} {m : Nat} (hz : c 70 = moL z) (h7 : z 7 = nI m) (hm : m < 8) (h1 : c 71 = ar 20 (fun i => nI (sv g w i))) (h3 : c 73 = ar 160 (fun i => nI (f i))) : SW none m_X10_remembers d 0 0 50 [some (.ref 70), none] [] (hp c) (rV (hp (up1 (up1 c 73 (ar 160 (fun i => nI (cpO (sv g w) f (20 * m) 20 i)))) 70 (moL (up1 z 7 (nI (m + 1))))))) := by
  have M := fun k => mo_H (c := up1 c 73 (ar 160 (fun i => nI (cpO (sv g w) f (20 * m) k i)))) ((up1_ne _ _ (by decide)).trans hz)
  have H71 := fun k => hp_is (c := up1 c 73 (ar 160 (fun i => nI (cpO (sv g w) f (20 * m) k i)))) 71 100 ((up1_ne _ _ (by decide)).trans h1) (by decide) (by decide)
  have H73 := fun k => hp_is (c := up1 c 73 (ar 160 (fun i => nI (cpO (sv g w) f (20 * m) k i)))) 73 100 (up1_same _ _ _) (by decide) (by decide)
  refine b_X10_remembers_50 ?_
  have key := up_all (n := 20) (T := fun k => a_X10_remembers_52 d 0 0 70 (nI k) (hp (up1 c 73 (ar 160 (fun i => nI (cpO (sv g w) f (20 * m) k i))))) (rV (hp (up1 (up1 c 73 (ar 160 (fun i => nI (cpO (sv g w) f (20 * m) 20 i)))) 70 (moL (up1 z 7 (nI (m + 1)))))))) (fun k hk ih => ?_) ?_
  · have e0 : up1 c 73 (ar 160 (fun i => nI (cpO (sv g w) f (20 * m) 0 i))) = c := by rw [cpO_0]; exact up1_id h3
    have key : a_X10_remembers_52 d 0 0 70 (nI 0) (hp (up1 c 73 (ar 160 (fun i => nI (cpO (sv g w) f (20 * m) 0 i))))) _ := key
    rw [e0] at key; exact key
  · have e1 : (20 : Int32) * nI m + nI k = nI (20 * m + k) := by
      rw [show (20 : Int32) = nI 20 from rfl, pk_mul, nI_add]
    refine b_X10_remembers_52 (fun q => absurd q (nI_ge (b := 20) hk (by decide))) (fun _ => b_X10_remembers_58 (x5 := nI m) (M k) rfl (M k) (by rw [← h7]; rfl) (M k) rfl (H71 k) (nI_pos (by omega)) (at20 hk) (H73 k) (by rw [e1]; exact nI_pos (by omega)) (by rw [e1, cl_nI (by omega), ar_len]; omega) ?_)
    rw [e1, cl_nI (by omega), ar_upN, hp_set (by decide) (by decide), up1_up1, cpO_s, nI_1]
    exact ih
  · refine b_X10_remembers_52 (fun _ => b_X10_remembers_84 (M 20) (x3 := nI m) (by rw [← h7]; rfl) (M 20) (by show 7 < 27; decide) ⟨rfl, ?_⟩) (fun q => absurd (nI_le (a := 20) (b := 20) (Nat.le_refl _) (by decide)) q)
    rw [nI_1, moS7, hp_set (by decide) (by decide)]
theorem r_remembers (R : RF c n g w) (X : HF c ch kp Hg Hw Sg Sw a) : ∃ c', MSE m_X10_remembers d [.ref 70] (hp c) none (hp c') ∧ RF c' n g w ∧ HF c' (min (ch + 1) 8) kp (shH Hg g) (shH Hw w) Sg Sw a ∧ KF c c' := by
  obtain ⟨x1, x2, ⟨z, hz, h7, h8⟩, ⟨f, h3, hf⟩, x5, x6⟩ := X
  have f7 : (moL z)[7]? = some (.int (nI ch)) := by rw [← h7]; rfl
  have X := (⟨x1, x2, ⟨z, hz, h7, h8⟩, ⟨f, h3, hf⟩, x5, x6⟩ : HF c ch kp Hg Hw Sg Sw a)
  by_cases h8c : ch = 8
  · subst h8c
    have M := fun k => mo_H (c := up1 c 73 (ar 160 (fun i => nI (cpO (fun i => f (20 + i)) f 0 k i)))) ((up1_ne _ _ (by decide)).trans hz)
    have H73 := fun k => hp_is (c := up1 c 73 (ar 160 (fun i => nI (cpO (fun i => f (20 + i)) f 0 k i)))) 73 100 (up1_same _ _ _) (by decide) (by decide)
    obtain ⟨c1, hc1⟩ : ∃ c1, c1 = up1 (up1 c 73 (ar 160 (fun i => nI (cpO (fun i => f (20 + i)) f 0 140 i)))) 70 (moL (up1 z 7 (nI 7))) := ⟨_, rfl⟩
    have k2 := r_rem2 (d := d) (c := c1) (g := g) (w := w) (z := up1 z 7 (nI 7)) (f := cpO (fun i => f (20 + i)) f 0 140) (m := 7) (by rw [hc1]; exact up1_same _ _ _) (up1_same _ _ _) (by decide) (by rw [hc1, up1_ne _ _ (by decide), up1_ne _ _ (by decide)]; exact R.row) (by rw [hc1, up1_ne _ _ (by decide)]; exact up1_same _ _ _)
    refine ⟨up1 (up1 c1 73 (ar 160 (fun i => nI (cpO (sv g w) (cpO (fun i => f (20 + i)) f 0 140) (20 * 7) 20 i)))) 70 (moL (up1 (up1 z 7 (nI 7)) 7 (nI (7 + 1)))), e_X10_remembers (b_X10_remembers_0 (mo_H hz) f7 (fun q => absurd rfl q) (fun _ => b_X10_remembers_9 ?_)), ?_, ?_, ?_⟩
    · have key := up_all (n := 140) (T := fun k => a_X10_remembers_12 d 0 0 70 (nI (20 + k)) (hp (up1 c 73 (ar 160 (fun i => nI (cpO (fun i => f (20 + i)) f 0 k i))))) (rV (hp (up1 (up1 c1 73 (ar 160 (fun i => nI (cpO (sv g w) (cpO (fun i => f (20 + i)) f 0 140) (20 * 7) 20 i)))) 70 (moL (up1 (up1 z 7 (nI 7)) 7 (nI (7 + 1)))))))) (fun k hk ih => ?_) ?_
      · have e0 : up1 c 73 (ar 160 (fun i => nI (cpO (fun i => f (20 + i)) f 0 0 i))) = c := by rw [cpO_0]; exact up1_id h3
        have key : a_X10_remembers_12 d 0 0 70 (nI 20) (hp (up1 c 73 (ar 160 (fun i => nI (cpO (fun i => f (20 + i)) f 0 0 i))))) _ := key
        rw [e0] at key; exact key
      · have e1 : nI (20 + k) - 20 = nI k := by
          have : nI (20 + k) - nI 20 = nI (20 + k - 20) := pk_sub (by omega)
          rw [show 20 + k - 20 = k by omega] at this; exact this
        refine b_X10_remembers_12 (fun q => absurd q (nI_ge (a := 20 + k) (b := 160) (by omega) (by decide))) (fun _ => b_X10_remembers_19 (x9 := nI (f (20 + k))) (M k) rfl (M k) rfl (H73 k) (nI_pos (by omega)) (by rw [cl_nI (by omega), ar_at _ (by omega), cpO_out (by omega)]) (H73 k) (by rw [e1]; exact nI_pos (by omega)) (by rw [e1, cl_nI (by omega), ar_len]; omega) ?_)
        have es := cpO_s (f := fun i => f (20 + i)) (o := f) (b := 0) (k := k)
        rw [Nat.zero_add] at es
        rw [e1, cl_nI (by omega), ar_upN, hp_set (by decide) (by decide), up1_up1, es, nI_1]
        exact ih
      · refine b_X10_remembers_12 (fun _ => b_X10_remembers_40 (M 140) (x3 := nI 8) (by rw [← h7]; rfl) (M 140) (by show 7 < 27; decide) ?_) (fun q => absurd (nI_le (a := 160) (b := 20 + 140) (by decide) (by decide)) q)
        rw [show nI 8 - 1 = nI 7 from rfl, moS7, hp_set (by decide) (by decide), ← hc1]
        exact k2
    · refine R.same (R.S.same (fun i hi => ?_)) ?_ hz (up1_same _ _ _) rfl rfl
      · rw [up1_ne _ _ (by omega), up1_ne _ _ (by omega), hc1, up1_ne _ _ (by omega), up1_ne _ _ (by omega)]
      · rw [up1_ne _ _ (by decide), up1_ne _ _ (by decide), hc1, up1_ne _ _ (by decide), up1_ne _ _ (by decide)]
    · refine ⟨by omega, x2, ⟨_, up1_same _ _ _, up1_same _ _ _, (up1_ne _ _ (by decide)).trans ((up1_ne _ _ (by decide)).trans h8)⟩, ⟨_, (up1_ne _ _ (by decide)).trans (up1_same _ _ _), fun j i hj hi => ?_⟩, ?_, ?_⟩
      · cases j with
        | zero =>
          rw [cpO_in (by omega) (by omega)]
          exact congrArg (sv g w) (by omega)
        | succ j =>
          have hj : j + 1 < 8 := hj
          rw [cpO_out (by omega), cpO_in (by omega) (by omega)]
          exact (congrArg f (by omega)).trans (hf j i (by omega) hi)
      · rw [up1_ne _ _ (by decide), up1_ne _ _ (by decide), hc1, up1_ne _ _ (by decide), up1_ne _ _ (by decide)]; exact x5
      · rw [up1_ne _ _ (by decide), up1_ne _ _ (by decide), hc1, up1_ne _ _ (by decide), up1_ne _ _ (by decide)]; exact x6
    · have e70 : c1 70 = moL (up1 z 7 (nI 7)) := by rw [hc1]; exact up1_same _ _ _
      have kA : KF c c1 := by rw [hc1]; exact (KF.up (i := 73) (by decide)).tr (KF.zz ((up1_ne _ _ (by decide)).trans hz) (by decide))
      exact kA.tr ((KF.up (i := 73) (by decide)).tr (KF.zz ((up1_ne _ _ (by decide)).trans e70) (by decide)))
  · have hch : ch < 8 := by omega
    refine ⟨_, e_X10_remembers (b_X10_remembers_0 (mo_H hz) f7 (fun _ => r_rem2 hz h7 hch R.row h3) (fun q => absurd ((i_eq (b := 8) (by omega) (by decide)).mp q) h8c)), ?_, ?_, ?_⟩
    · refine R.same (R.S.same (fun i hi => ?_)) ?_ hz (up1_same _ _ _) rfl rfl
      · rw [up1_ne _ _ (by omega), up1_ne _ _ (by omega)]
      · rw [up1_ne _ _ (by decide), up1_ne _ _ (by decide)]
    · rw [show min (ch + 1) 8 = ch + 1 by omega]
      refine ⟨by omega, x2, ⟨_, up1_same _ _ _, up1_same _ _ _, (up1_ne _ _ (by decide)).trans h8⟩, ⟨_, (up1_ne _ _ (by decide)).trans (up1_same _ _ _), fun j i hj hi => ?_⟩, ?_, ?_⟩
      · cases j with
        | zero =>
          rw [cpO_in (by omega) (by omega)]
          exact congrArg (sv g w) (by omega)
        | succ j =>
          rw [cpO_out (by omega), show 20 * (ch + 1 - 1 - (j + 1)) + i = 20 * (ch - 1 - j) + i by omega]
          exact hf j i (by omega) hi
      · rw [up1_ne _ _ (by decide), up1_ne _ _ (by decide)]; exact x5
      · rw [up1_ne _ _ (by decide), up1_ne _ _ (by decide)]; exact x6
    · exact (KF.up (i := 73) (by decide)).tr (KF.zz ((up1_ne _ _ (by decide)).trans hz) (by decide))
end
