/-! the reference: the object 70, its rows 71 .. 81 -/
def moL (z : Nat → Int32) : List Value := [.int (z 0), .ref 71, .ref 72, .ref 73, .ref 74, .ref 75, .int (z 6), .int (z 7), .int (z 8), .int (z 9), .int (z 10), .ref 76, .ref 77, .int (z 13), .int (z 14), .int (z 15), .int (z 16), .int (z 17), .int (z 18), .int (z 19), .int (z 20), .int (z 21), .ref 78, .ref 79, .int (z 24), .ref 80, .ref 81]
theorem mo_H {c : Nat → List Value} {z : Nat → Int32} (h : c 70 = moL z) : (hp c)[70]? = some (10, moL z) := hp_is 70 10 h (by decide) (by decide)
/-- n vertices with the neighbors g are looked at -/
def VW (c : Nat → List Value) (n : Nat) (g : Nat → Nat) : Prop := n ≤ 10 ∧ (∀ i, g i < 1024) ∧ ∃ z : Nat → Int32, c 70 = moL z ∧ ((z 9 = 0 ∧ z 6 = nI n ∧ ∃ w : Nat → Nat, c 71 = ar 20 (fun i => nI (sv g w i))) ∨ (z 9 = 1 ∧ z 10 = nI n ∧ ∃ w : Nat → Nat, c 72 = ar 20 (fun i => nI (sv g w i))))
section
variable {d n : Nat} {c : Nat → List Value} {g w : Nat → Nat} {h : ab_H}
theorem VW.H (X : VW c n g) : ∃ fs, (hp c)[70]? = some (10, fs) := by
  obtain ⟨-, -, z, hz, -⟩ := X
  exact ⟨_, mo_H hz⟩
theorem sv_lo {i : Nat} (hi : i < 10) : sv g w i = g i := if_pos hi
theorem sv_hi {i : Nat} : sv g w (10 + i) = w i := by
  unfold sv
  rw [if_neg (by omega), Nat.add_sub_cancel_left]
theorem r_many (X : VW c n g) : MSE m_X10_many d [.ref 70] (hp c) (some (.int (nI n))) (hp c) := by
  obtain ⟨hn, hg, z, hz, hx⟩ := X
  have H := mo_H hz
  rcases hx with ⟨h1, h2, -⟩ | ⟨h1, h2, -⟩
  · exact e_X10_many (b_X10_many_0 H rfl (fun _ => b_X10_many_14 H rfl (b_X10_many_18 ⟨by rw [h2], rfl⟩)) (fun q => absurd h1 q))
  · exact e_X10_many (b_X10_many_0 H rfl (fun q => absurd (h1.symm.trans q) (by decide)) (fun _ => b_X10_many_7 H rfl (b_X10_many_18 ⟨by rw [h2], rfl⟩)))
theorem at20 {f : Nat → Int32} {i : Nat} (hi : i < 20) : (ar 20 f)[(nI i).toNatClampNeg]? = some (.int (f i)) := by rw [cl_nI (by omega)]; exact ar_at _ hi
theorem ln20 {f : Nat → Int32} {i : Nat} (hi : i < 20) : (nI i).toNatClampNeg < (ar 20 f).length := by rw [cl_nI (by omega), ar_len]; exact hi
theorem r_at (X : VW c n g) {v : Nat} (hv : v < 10) : MSE m_X10_at d [.ref 70, .int (nI v)] (hp c) (some (.int (nI (g v)))) (hp c) := by
  obtain ⟨hn, hg, z, hz, hx⟩ := X
  have H := mo_H hz
  rcases hx with ⟨h1, -, w, h2⟩ | ⟨h1, -, w, h2⟩
  · exact e_X10_at (b_X10_at_0 H rfl (fun _ => b_X10_at_16 H rfl (hp_is 71 100 h2 (by decide) (by decide)) (nI_pos (by omega)) (at20 (by omega)) (b_X10_at_22 ⟨by rw [sv_lo hv], rfl⟩)) (fun q => absurd h1 q))
  · exact e_X10_at (b_X10_at_0 H rfl (fun q => absurd (h1.symm.trans q) (by decide)) (fun _ => b_X10_at_7 H rfl (hp_is 72 100 h2 (by decide) (by decide)) (nI_pos (by omega)) (at20 (by omega)) (b_X10_at_22 ⟨by rw [sv_lo hv], rfl⟩)))
theorem r_has {s v : Nat} (hs : s < 2147483648) (hv : v < 31) : MSE m_X10_has d [.int (nI s), .int (nI v)] h (some (.int (nI (if s.testBit v = true then 1 else 0)))) h := by
  have e := i_bit hs hv
  refine e_X10_has (b_X10_has_0 (fun q => b_X10_has_13 (b_X10_has_14 (by decide) ⟨?_, rfl⟩)) (fun q => b_X10_has_9 (b_X10_has_14 (by decide) ⟨?_, rfl⟩)))
  · rw [e] at q
    cases hb : s.testBit v
    · rfl
    · rw [hb] at q; exact absurd rfl q
  · rw [e] at q
    cases hb : s.testBit v
    · rw [hb] at q; exact absurd q (by decide)
    · rfl
theorem r_ones {s : Nat} (hs : s < 1024) : MSE m_X10_ones (d + 1) [.int (nI s)] h (some (.int (nI (pc s)))) h :=
  e_X10_ones (b_X10_ones_0 (s_bitCount hs) ⟨rfl, rfl⟩)
theorem r_lowest {s : Nat} (hs : s < 1024) : MSE m_X10_lowest (d + 1) [.int (nI s)] h (some (.int (nI (lz s)))) h :=
  e_X10_lowest (b_X10_lowest_0 (s_ntz hs) ⟨rfl, rfl⟩)
theorem lz_low (s : Nat) : lz s = (low s).getD 32 := rfl
theorem lz_lt {s : Nat} : lz s < 33 := by
  rw [lz_low]
  cases hl : low s with
  | none => exact (by decide : 32 < 33)
  | some v => have := low_lt hl; show v < 33; omega
theorem r_isIn {x a b : Int32} : MSE m_X10_isIn d [.int x, .int a, .int b] h (some (.int (nI (if x < a ∨ b < x then 0 else 1)))) h := by
  refine e_X10_isIn (b_X10_isIn_0 (fun q => b_X10_isIn_14 (b_X10_isIn_15 (by decide) ⟨?_, rfl⟩)) (fun q => b_X10_isIn_5 (fun q2 => b_X10_isIn_14 (b_X10_isIn_15 (by decide) ⟨?_, rfl⟩)) (fun q2 => b_X10_isIn_10 (b_X10_isIn_15 (by decide) ⟨?_, rfl⟩))))
  · rw [if_pos (Or.inl q)]; rfl
  · rw [if_pos (Or.inr q2)]; rfl
  · rw [if_neg (fun e => e.elim q q2)]; rfl
/-- all that hangs at a vertex, without another one -/
def rmk (g : Nat → Nat) (o : Option Nat) (k : Nat) : Nat := match o with
  | none => g k
  | some b => df (g k) (2 ^ b)
def riU (g : Nat → Nat) (o : Option Nat) (s : Nat) : Nat → Nat
  | 0 => s
  | k + 1 => if s.testBit k = true then riU g o s k ||| rmk g o k else riU g o s k
def ri (g : Nat → Nat) (n : Nat) (o : Option Nat) (s : Nat) : Nat := riU g o s n
def mrU (g : Nat → Nat) (n : Nat) (o : Option Nat) : Nat → Nat → Nat
  | 0, s => s
  | j + 1, s => if ri g n o s = s then s else mrU g n o j (ri g n o s)
def mr (g : Nat → Nat) (n : Nat) (o : Option Nat) (v : Nat) : Nat := mrU g n o 10 (2 ^ v)
def mc (g : Nat → Nat) (n v : Nat) : Nat := mr g n none v
theorem rmk_lt {o : Option Nat} (hg : ∀ i, g i < 1024) (k : Nat) : rmk g o k < 1024 := by
  cases o with
  | none => exact hg k
  | some b => exact df_lt (k := 10) (hg k)
theorem riU_lt {o : Option Nat} (hg : ∀ i, g i < 1024) {s : Nat} (hs : s < 1024) : ∀ k, riU g o s k < 1024
  | 0 => hs
  | k + 1 => by
    unfold riU
    split
    · exact or_lt (riU_lt hg hs k) (rmk_lt hg k)
    · exact riU_lt hg hs k
theorem mrU_lt {o : Option Nat} (hg : ∀ i, g i < 1024) : ∀ j s, s < 1024 → mrU g n o j s < 1024
  | 0, _, hs => hs
  | j + 1, s, hs => by
    unfold mrU
    split
    · exact hs
    · exact mrU_lt hg j _ (riU_lt hg hs n)
theorem mr_lt {o : Option Nat} (hg : ∀ i, g i < 1024) {v : Nat} (hv : v < 10) : mr g n o v < 1024 := mrU_lt hg 10 _ (pow_lt hv)
theorem r_reach (X : VW c n g) {v : Nat} {o : Option Nat} (hv : v < 10) (ho : ∀ b, o = some b → b < 31) (hst : ri g n o (mr g n o v) = mr g n o v) : MSE m_X10_reach (d + 1) [.ref 70, .int (nI v), .int (iO o)] (hp c) (some (.int (nI (mr g n o v)))) (hp c) := by
  have hn := X.1
  have hg := X.2.1
  obtain ⟨fs, H⟩ := X.H
  refine e_X10_reach (b_X10_reach_0 ?_)
  rw [i_shl1 (by omega)]
  have key : ∀ j s l, s < 1024 → l < 1024 → s ≠ l → ri g n o (mrU g n o j s) = mrU g n o j s → a_X10_reach_7 (d + 1) 0 0 70 (iO o) (nI s) (nI l) (hp c) (rI (nI (mrU g n o j s)) (hp c)) := by
    intro j
    -- a round: from the head with another set to the head with the next one
    have round : ∀ s l r, s < 1024 → l < 1024 → s ≠ l → a_X10_reach_7 (d + 1) 0 0 70 (iO o) (nI (ri g n o s)) (nI s) (hp c) (rI r (hp c)) → a_X10_reach_7 (d + 1) 0 0 70 (iO o) (nI s) (nI l) (hp c) (rI r (hp c)) := by
      intro s l r hs hl hne k
      refine b_X10_reach_7 (fun q => absurd ((i_eq (by omega) (by omega)).mp q) hne) (fun _ => b_X10_reach_13 ?_)
      refine up_all (n := n) (T := fun i => a_X10_reach_19 (d + 1) 0 0 70 (iO o) (nI (riU g o s i)) (nI s) (nI i) (hp c) (rI r (hp c))) (fun i hi ih => ?_) ?_
      · have ih : a_X10_reach_19 (d + 1) 0 0 70 (iO o) (nI (riU g o s (i + 1))) (nI s) (nI (i + 1)) (hp c) (rI r (hp c)) := ih
        refine b_X10_reach_19 H (r_many X) (fun q => absurd q (nI_ge hi (by omega))) (fun _ => b_X10_reach_28 (r_has (by omega) (by omega)) (fun q => b_X10_reach_62 ?_) (fun q => b_X10_reach_38 H (r_at X (by omega)) (fun q2 => b_X10_reach_54 (b_X10_reach_59 (b_X10_reach_62 ?_))) (fun q2 => b_X10_reach_50 (b_X10_reach_59 (b_X10_reach_62 ?_)))))
        · rw [nI_1]
          have e : riU g o s (i + 1) = riU g o s i := if_neg (by rw [h01.mp q]; decide)
          rw [e] at ih; exact ih
        · have e : riU g o s (i + 1) = riU g o s i ||| rmk g o i := if_pos (tb_of q)
          cases o with
          | none => exact absurd rfl q2
          | some b =>
            have hb := ho b rfl
            rw [nI_1, show iO (some b) = nI b from rfl, i_shl1 hb, i_df, i_or]
            rw [e] at ih; exact ih
        · have e : riU g o s (i + 1) = riU g o s i ||| rmk g o i := if_pos (tb_of q)
          have e2 := (iO_none (fun b q => by have := ho b q; omega)).mp q2
          subst e2
          have e3 : nI (g i) &&& (-1) = nI (g i) := by
            rw [show (-1 : Int32) = nI 0 ^^^ (-1) by decide, i_df]
            congr 1
            apply set_ext
            intro j
            rw [df_bit, Nat.zero_testBit]; simp
          rw [nI_1, e3, i_or]
          rw [e] at ih; exact ih
      · exact b_X10_reach_19 H (r_many X) (fun _ => b_X10_reach_68 k) (fun q => absurd (nI_le (Nat.le_refl n) (by omega)) q)
    have done : ∀ s, a_X10_reach_7 (d + 1) 0 0 70 (iO o) (nI s) (nI s) (hp c) (rI (nI s) (hp c)) := fun s =>
      b_X10_reach_7 (fun _ => b_X10_reach_71 ⟨rfl, rfl⟩) (fun q => absurd rfl q)
    induction j with
    | zero =>
      intro s l hs hl hne hst
      have hst : ri g n o s = s := hst
      refine round s l _ hs hl hne ?_
      rw [hst]; exact done s
    | succ j ih =>
      intro s l hs hl hne hst
      by_cases e : ri g n o s = s
      · have e2 : mrU g n o (j + 1) s = s := if_pos e
        rw [e2]
        refine round s l _ hs hl hne ?_
        rw [e]; exact done s
      · have e2 : mrU g n o (j + 1) s = mrU g n o j (ri g n o s) := if_neg e
        rw [e2] at hst ⊢
        exact round s l _ hs hl hne (ih _ _ (riU_lt hg hs n) hs e hst)
  have h0 : 2 ^ v ≠ 0 := Nat.ne_of_gt (Nat.two_pow_pos v)
  exact key 10 (2 ^ v) 0 (pow_lt hv) (by decide) h0 hst
/-- what is so of a forest -/
def GOK (g : Nat → Nat) (n : Nat) : Prop := (∀ o v, v < 10 → ri g n o (mr g n o v) = mr g n o v) ∧ (∀ v k, v < n → k < n → (mc g n v).testBit k = true → ∃ r, ds g n v k = some r)
theorem r_component (X : VW c n g) (K : GOK g n) {v : Nat} (hv : v < 10) : MSE m_X10_component (d + 2) [.ref 70, .int (nI v)] (hp c) (some (.int (nI (mc g n v)))) (hp c) := by
  obtain ⟨fs, H⟩ := X.H
  exact e_X10_component (b_X10_component_0 H (r_reach (o := none) X hv (fun b q => by cases q) (K.1 none v hv)) ⟨rfl, rfl⟩)
def mR (g : Nat → Nat) (n v : Nat) : Bool := decide (lz (mc g n v) = v)
theorem r_componentMany (X : VW c n g) (K : GOK g n) : MSE m_X10_componentMany (d + 3) [.ref 70] (hp c) (some (.int (nI (cnU (mR g n) n)))) (hp c) := by
  have hn := X.1
  obtain ⟨fs, H⟩ := X.H
  refine e_X10_componentMany (b_X10_componentMany_0 ?_)
  refine up_all (n := n) (T := fun k => a_X10_componentMany_4 (d + 3) 0 0 70 (nI (cnU (mR g n) k)) (nI k) (hp c) (rI (nI (cnU (mR g n) n)) (hp c))) (fun k hk ih => ?_) ?_
  · have ih : a_X10_componentMany_4 (d + 3) 0 0 70 (nI (cnU (mR g n) (k + 1))) (nI (k + 1)) (hp c) (rI (nI (cnU (mR g n) n)) (hp c)) := ih
    have hm : mc g n k < 1024 := mr_lt X.2.1 (by omega)
    have hl := lz_lt (s := mc g n k)
    rw [cnU_s] at ih
    refine b_X10_componentMany_4 H (r_many X) (fun q => absurd q (nI_ge hk (by omega))) (fun _ => b_X10_componentMany_12 H (r_component X K (by omega)) (r_lowest hm) (fun q => b_X10_componentMany_29 (b_X10_componentMany_30 ?_)) (fun q => b_X10_componentMany_25 (b_X10_componentMany_30 ?_)))
    · have e : ¬ mR g n k = true := by
        unfold mR
        rw [decide_eq_false (fun e => q (by rw [e]))]; decide
      rw [if_neg e] at ih
      rw [nI_1, show nI (cnU (mR g n) k) + 0 = nI (cnU (mR g n) k) from nI_add _ 0]; exact ih
    · have e : mR g n k = true := by
        unfold mR
        exact decide_eq_true ((i_eq (by omega) (by omega)).mp q)
      rw [if_pos e] at ih
      rw [nI_1, nI_1]; exact ih
  · exact b_X10_componentMany_4 H (r_many X) (fun _ => b_X10_componentMany_38 ⟨rfl, rfl⟩) (fun q => absurd (nI_le (Nat.le_refl n) (by omega)) q)
/-- the set of the component with a number -/
def maU (g : Nat → Nat) (n : Nat) : Nat → Nat → Int32 → Nat
  | 0, _, _ => 0
  | j + 1, v, x => if mR g n v = true then (if x = 0 then mc g n v else maU g n j (v + 1) (x + (-1))) else maU g n j (v + 1) x
def ma (g : Nat → Nat) (n : Nat) (x : Int32) : Nat := maU g n n 0 x
theorem maU_lt (hg : ∀ i, g i < 1024) (hn : n ≤ 10) : ∀ j v x, v + j = n → maU g n j v x < 1024
  | 0, _, _, _ => (by decide : 0 < 1024)
  | j + 1, v, x, h => by
    unfold maU
    split
    · split
      · exact mr_lt hg (by omega)
      · exact maU_lt hg hn j (v + 1) _ (by omega)
    · exact maU_lt hg hn j (v + 1) _ (by omega)
theorem ma_lt (hg : ∀ i, g i < 1024) (hn : n ≤ 10) {x : Int32} : ma g n x < 1024 := maU_lt hg hn n 0 x (by omega)
theorem r_componentAt (X : VW c n g) (K : GOK g n) {x : Int32} : MSE m_X10_componentAt (d + 3) [.ref 70, .int x] (hp c) (some (.int (nI (ma g n x)))) (hp c) := by
  have hn := X.1
  obtain ⟨fs, H⟩ := X.H
  refine e_X10_componentAt (b_X10_componentAt_0 ?_)
  have key : ∀ j v x, v + j = n → a_X10_componentAt_4 (d + 3) 0 0 70 x (nI v) (hp c) (rI (nI (maU g n j v x)) (hp c)) := by
    intro j
    induction j with
    | zero =>
      intro v x hv
      exact b_X10_componentAt_4 H (r_many X) (fun _ => b_X10_componentAt_47 ⟨rfl, rfl⟩) (fun q => absurd (nI_le (show n ≤ v by omega) (by omega)) q)
    | succ j ih =>
      intro v x hv
      have hm : mc g n v < 1024 := mr_lt X.2.1 (by omega)
      have hl := lz_lt (s := mc g n v)
      unfold maU
      refine b_X10_componentAt_4 H (r_many X) (fun q => absurd q (nI_ge (show v < n by omega) (by omega))) (fun _ => b_X10_componentAt_12 H (r_component X K (by omega)) (r_lowest hm) (fun q => b_X10_componentAt_31 (fun q2 => b_X10_componentAt_38 (b_X10_componentAt_41 ?_)) (fun q2 => b_X10_componentAt_35 ⟨?_, rfl⟩)) (fun q => b_X10_componentAt_28 (b_X10_componentAt_41 ?_)))
      · have e : mR g n v = true := decide_eq_true ((i_eq (by omega) (by omega)).mp q)
        rw [nI_1, if_pos e, if_neg q2]
        exact ih (v + 1) _ (by omega)
      · have e : mR g n v = true := decide_eq_true ((i_eq (by omega) (by omega)).mp q)
        rw [if_pos e, if_pos q2]
      · have e : ¬ mR g n v = true := by
          unfold mR
          rw [decide_eq_false (fun e => q (by rw [e]))]; decide
        rw [nI_1, if_neg e]
        exact ih (v + 1) _ (by omega)
  exact key n 0 x (by omega)
theorem r_numberOf (X : VW c n g) (K : GOK g n) {v : Nat} (hv : v < 10) (hl : lz (mc g n v) ≤ 10) : MSE m_X10_numberOf (d + 3) [.ref 70, .int (nI v)] (hp c) (some (.int (nI (cnU (mR g n) (lz (mc g n v)))))) (hp c) := by
  have hn := X.1
  obtain ⟨fs, H⟩ := X.H
  have hm0 : mc g n v < 1024 := mr_lt X.2.1 hv
  refine e_X10_numberOf (b_X10_numberOf_0 ?_)
  refine up_all (n := lz (mc g n v)) (T := fun k => a_X10_numberOf_4 (d + 3) 0 0 70 (nI v) (nI (cnU (mR g n) k)) (nI k) (hp c) (rI (nI (cnU (mR g n) (lz (mc g n v)))) (hp c))) (fun k hk ih => ?_) ?_
  · have ih : a_X10_numberOf_4 (d + 3) 0 0 70 (nI v) (nI (cnU (mR g n) (k + 1))) (nI (k + 1)) (hp c) (rI (nI (cnU (mR g n) (lz (mc g n v)))) (hp c)) := ih
    have hm : mc g n k < 1024 := mr_lt X.2.1 (by omega)
    have hl2 := lz_lt (s := mc g n k)
    rw [cnU_s] at ih
    refine b_X10_numberOf_4 H (r_component X K hv) (r_lowest hm0) (fun q => absurd q (nI_ge hk (by omega))) (fun _ => b_X10_numberOf_16 H (r_component X K (by omega)) (r_lowest hm) (fun q => b_X10_numberOf_33 (b_X10_numberOf_34 ?_)) (fun q => b_X10_numberOf_29 (b_X10_numberOf_34 ?_)))
    · have e : ¬ mR g n k = true := by
        unfold mR
        rw [decide_eq_false (fun e => q (by rw [e]))]; decide
      rw [if_neg e] at ih
      rw [nI_1, show nI (cnU (mR g n) k) + 0 = nI (cnU (mR g n) k) from nI_add _ 0]; exact ih
    · have e : mR g n k = true := by
        unfold mR
        exact decide_eq_true ((i_eq (by omega) (by omega)).mp q)
      rw [if_pos e] at ih
      rw [nI_1, nI_1]; exact ih
  · exact b_X10_numberOf_4 H (r_component X K hv) (r_lowest hm0) (fun _ => b_X10_numberOf_42 ⟨rfl, rfl⟩) (fun q => absurd (nI_le (Nat.le_refl _) (by omega)) q)
theorem r_far (X : VW c n g) {u v : Nat} (hu : u < 10) (hv : v < 10) : MSE m_X10_far (d + 1) [.ref 70, .int (nI u), .int (nI v)] (hp c) (some (.int (iO (ds g n u v)))) (hp c) := by
  have hn := X.1
  obtain ⟨fs, H⟩ := X.H
  refine e_X10_far (b_X10_far_0 ?_)
  rw [i_shl1 (by omega)]
  have key : ∀ j k s, k + j = n → s < 1024 → a_X10_far_7 (d + 1) 0 0 70 (nI v) (nI s) (nI k) (hp c) (rI (iO (dsU g n v j k s)) (hp c)) := by
    intro j
    induction j with
    | zero =>
      intro k s hk hs
      exact b_X10_far_7 H (r_many X) (fun _ => b_X10_far_77 ⟨rfl, rfl⟩) (fun q => absurd (nI_le (show n ≤ k by omega) (by omega)) q)
    | succ j ih =>
      intro k s hk hs
      refine b_X10_far_7 H (r_many X) (fun q => absurd q (nI_ge (show k < n by omega) (by omega))) (fun _ => b_X10_far_16 (r_has (by omega) (by omega)) (fun q => b_X10_far_27 ?_) (fun q => b_X10_far_24 ⟨?_, rfl⟩))
      · have e : dsU g n v (j + 1) k s = dsU g n v j (k + 1) (wn g n s) := if_neg (by rw [h01.mp q]; decide)
        rw [e]
        refine up_all (n := n) (T := fun i => a_X10_far_33 (d + 1) 0 0 70 (nI v) (nI s) (nI k) (nI (wnU g s i)) (nI i) (hp c) (rI (iO (dsU g n v j (k + 1) (wn g n s))) (hp c))) (fun i hi ih2 => ?_) ?_
        · have ih2 : a_X10_far_33 (d + 1) 0 0 70 (nI v) (nI s) (nI k) (nI (wnU g s (i + 1))) (nI (i + 1)) (hp c) (rI (iO (dsU g n v j (k + 1) (wn g n s))) (hp c)) := ih2
          refine b_X10_far_33 H (r_many X) (fun q => absurd q (nI_ge hi (by omega))) (fun _ => b_X10_far_42 (r_has (by omega) (by omega)) (fun q => b_X10_far_62 ?_) (fun q => b_X10_far_51 H (r_at X (by omega)) (b_X10_far_62 ?_)))
          · rw [nI_1]
            have e : wnU g s (i + 1) = wnU g s i := if_neg (by rw [h01.mp q]; decide)
            rw [e] at ih2; exact ih2
          · rw [nI_1, i_or]
            have e : wnU g s (i + 1) = wnU g s i ||| g i := if_pos (tb_of q)
            rw [e] at ih2; exact ih2
        · refine b_X10_far_33 H (r_many X) (fun _ => b_X10_far_68 ?_) (fun q => absurd (nI_le (Nat.le_refl n) (by omega)) q)
          rw [nI_1]
          exact ih (k + 1) _ (by omega) (wnU_lt X.2.1 hs n)
      · have e : dsU g n v (j + 1) k s = some k := if_pos (tb_of q)
        rw [e]; rfl
  exact key n 0 _ (by omega) (pow_lt hu)
/-- the greatest distance within the component -/
def mE (g : Nat → Nat) (n v : Nat) : Nat := mxU (mc g n v) (fun k => (ds g n v k).getD 0) n
theorem ds_le {g : Nat → Nat} {n v k : Nat} : (ds g n v k).getD 0 ≤ n := by
  cases h : ds g n v k with
  | none => exact Nat.zero_le _
  | some r => exact Nat.le_of_lt (ds_lt h)
theorem mE_le {g : Nat → Nat} {n v : Nat} : mE g n v ≤ n := mxU_le (fun _ => ds_le) n
theorem r_eccentricity (X : VW c n g) (K : GOK g n) {v : Nat} (hv : v < n) : MSE m_X10_eccentricity (d + 3) [.ref 70, .int (nI v)] (hp c) (some (.int (nI (mE g n v)))) (hp c) := by
  have hn := X.1
  obtain ⟨fs, H⟩ := X.H
  have hm : mc g n v < 1024 := mr_lt X.2.1 (by omega)
  refine e_X10_eccentricity (b_X10_eccentricity_0 H (r_component X K (by omega)) ?_)
  refine up_all (n := n) (T := fun k => a_X10_eccentricity_11 (d + 3) 0 0 70 (nI v) (nI (mxU (mc g n v) (fun k => (ds g n v k).getD 0) k)) (nI (mc g n v)) (nI k) (hp c) (rI (nI (mE g n v)) (hp c))) (fun k hk ih => ?_) ?_
  · have ih : a_X10_eccentricity_11 (d + 3) 0 0 70 (nI v) (nI (mxU (mc g n v) (fun k => (ds g n v k).getD 0) (k + 1))) (nI (mc g n v)) (nI (k + 1)) (hp c) (rI (nI (mE g n v)) (hp c)) := ih
    rw [mxU_s] at ih
    have hb : mxU (mc g n v) (fun k => (ds g n v k).getD 0) k ≤ n := mxU_le (fun _ => ds_le) k
    refine b_X10_eccentricity_11 H (r_many X) (fun q => absurd q (nI_ge hk (by omega))) (fun _ => b_X10_eccentricity_20 (r_has (by omega) (by omega)) (fun q => b_X10_eccentricity_41 ?_) (fun q => ?_))
    · rw [if_neg (show ¬ (mc g n v).testBit k = true by rw [h01.mp q]; decide)] at ih
      rw [nI_1]; exact ih
    · rw [if_pos (tb_of q)] at ih
      obtain ⟨r, hr⟩ := K.2 v k hv hk (tb_of q)
      have hrn := ds_lt hr
      have m1 := r_far (d := d + 1) X (show v < 10 by omega) (show k < 10 by omega)
      rw [hr] at m1
      have e : (ds g n v k).getD 0 = r := by rw [hr]; rfl
      refine b_X10_eccentricity_29 H m1 (s_maxN (by omega) (by omega)) (b_X10_eccentricity_41 ?_)
      rw [nI_1]
      have ih : a_X10_eccentricity_11 (d + 3) 0 0 70 (nI v) (nI (max (mxU (mc g n v) (fun k => (ds g n v k).getD 0) k) ((ds g n v k).getD 0))) (nI (mc g n v)) (nI (k + 1)) (hp c) (rI (nI (mE g n v)) (hp c)) := ih
      rw [e] at ih
      exact ih
  · exact b_X10_eccentricity_11 H (r_many X) (fun _ => b_X10_eccentricity_47 ⟨rfl, rfl⟩) (fun q => absurd (nI_le (Nat.le_refl n) (by omega)) q)
/-- weights of the forest now: the row 71 -/
def MWt (c : Nat → List Value) (w : Nat → Nat) : Prop := (∀ i, w i ≤ 99) ∧ ∃ g : Nat → Nat, c 71 = ar 20 (fun i => nI (sv g w i))
def w1 (w : Nat → Nat) (b : Bool) (v : Nat) : Nat := if b = true then w v else 1
theorem w1_le {b : Bool} (hw : ∀ i, w i ≤ 99) : ∀ i, w1 w b i ≤ 99 := fun i => by
  unfold w1; split
  · exact hw i
  · decide
theorem r_weightOf (X : VW c n g) (Y : MWt c w) {s : Nat} (hs : s < 1024) {b : Bool} : MSE m_X10_weightOf (d + 1) [.ref 70, .int (nI s), .int (nI (if b = true then 1 else 0))] (hp c) (some (.int (nI (smU s (w1 w b) n)))) (hp c) := by
  have hn := X.1
  obtain ⟨hw, gw, h71⟩ := Y
  have X2 := X
  obtain ⟨-, -, z, hz, -⟩ := X2
  have H := mo_H hz
  refine e_X10_weightOf (b_X10_weightOf_0 ?_)
  refine up_all (n := n) (T := fun k => a_X10_weightOf_5 (d + 1) 0 0 70 (nI s) (nI (if b = true then 1 else 0)) (nI (smU s (w1 w b) k)) (nI k) (hp c) (rI (nI (smU s (w1 w b) n)) (hp c))) (fun k hk ih => ?_) ?_
  · have ih : a_X10_weightOf_5 (d + 1) 0 0 70 (nI s) (nI (if b = true then 1 else 0)) (nI (smU s (w1 w b) (k + 1))) (nI (k + 1)) (hp c) (rI (nI (smU s (w1 w b) n)) (hp c)) := ih
    rw [smU_s] at ih
    refine b_X10_weightOf_5 H (r_many X) (fun q => absurd q (nI_ge hk (by omega))) (fun _ => b_X10_weightOf_14 (r_has (by omega) (by omega)) (fun q => b_X10_weightOf_44 ?_) (fun q => b_X10_weightOf_23 (fun q2 => b_X10_weightOf_41 (b_X10_weightOf_42 (b_X10_weightOf_44 ?_))) (fun q2 => b_X10_weightOf_28 (x6 := nI (w k)) H rfl (hp_is 71 100 h71 (by decide) (by decide)) (by rw [show (10 : Int32) + nI k = nI (10 + k) from nI_add 10 k]; exact nI_pos (by omega)) (by rw [show (10 : Int32) + nI k = nI (10 + k) from nI_add 10 k, at20 (by omega), sv_hi]) (b_X10_weightOf_42 (b_X10_weightOf_44 ?_)))))
    · rw [if_neg (show ¬ s.testBit k = true by rw [h01.mp q]; decide)] at ih
      rw [nI_1]; exact ih
    · rw [if_pos (tb_of q)] at ih
      have e : w1 w b k = 1 := if_neg (by rw [h01.mp q2]; decide)
      rw [e] at ih
      rw [nI_1, nI_1]; exact ih
    · rw [if_pos (tb_of q)] at ih
      have e : w1 w b k = w k := if_pos (tb_of q2)
      rw [e] at ih
      rw [nI_1, nI_add]; exact ih
  · exact b_X10_weightOf_5 H (r_many X) (fun _ => b_X10_weightOf_50 ⟨rfl, rfl⟩) (fun q => absurd (nI_le (Nat.le_refl n) (by omega)) q)
/-- the greatest value of a part -/
def mg (g w : Nat → Nat) (n v : Nat) (b : Bool) : Nat := mxU (g v) (fun u => smU (mr g n (some v) u) (w1 w b) n) n
theorem sm_le {s : Nat} {b : Bool} (hn : n ≤ 10) (hw : ∀ i, w i ≤ 99) : smU s (w1 w b) n ≤ 990 := by
  have := smU_le (m := s) (w1_le (b := b) hw) n
  have : n * 99 ≤ 10 * 99 := Nat.mul_le_mul_right _ hn
  omega
theorem mg_le {v : Nat} {b : Bool} (hn : n ≤ 10) (hw : ∀ i, w i ≤ 99) : mg g w n v b ≤ 990 := mxU_le (fun u => sm_le hn hw) n
theorem r_greatestPart (X : VW c n g) (K : GOK g n) (Y : MWt c w) {v : Nat} (hv : v < n) {b : Bool} : MSE m_X10_greatestPart (d + 2) [.ref 70, .int (nI v), .int (nI (if b = true then 1 else 0))] (hp c) (some (.int (nI (mg g w n v b)))) (hp c) := by
  have hn := X.1
  have hg := X.2.1 v
  have hw := Y.1
  obtain ⟨fs, H⟩ := X.H
  refine e_X10_greatestPart (b_X10_greatestPart_0 ?_)
  obtain ⟨e, he⟩ : ∃ e : Nat → Nat, e = fun u => smU (mr g n (some v) u) (w1 w b) n := ⟨_, rfl⟩
  have hmg : mg g w n v b = mxU (g v) e n := by rw [he]; rfl
  have heb : ∀ u, e u ≤ 990 := fun u => by rw [he]; exact sm_le hn hw
  rw [hmg]
  refine up_all (n := n) (T := fun k => a_X10_greatestPart_5 (d + 2) 0 0 70 (nI v) (nI (if b = true then 1 else 0)) (nI (mxU (g v) e k)) (nI k) (hp c) (rI (nI (mxU (g v) e n)) (hp c))) (fun k hk ih => ?_) ?_
  · have ih : a_X10_greatestPart_5 (d + 2) 0 0 70 (nI v) (nI (if b = true then 1 else 0)) (nI (mxU (g v) e (k + 1))) (nI (k + 1)) (hp c) (rI (nI (mxU (g v) e n)) (hp c)) := ih
    rw [mxU_s] at ih
    have hb1 : mxU (g v) e k ≤ 990 := mxU_le heb k
    have hb2 := heb k
    have ek : e k = smU (mr g n (some v) k) (w1 w b) n := by rw [he]
    refine b_X10_greatestPart_5 H (r_many X) (fun q => absurd q (nI_ge hk (by omega))) (fun _ => b_X10_greatestPart_14 H (r_at X (by omega)) (r_has (by omega) (by omega)) (fun q => b_X10_greatestPart_44 ?_) (fun q => b_X10_greatestPart_27 H (r_reach (o := some v) X (by omega) (fun b' q' => by cases q'; omega) (K.1 (some v) k (by omega))) H (r_weightOf X Y (mr_lt X.2.1 (by omega))) (s_maxN (by omega) (by rw [← ek]; omega)) (b_X10_greatestPart_44 ?_)))
    · rw [if_neg (show ¬ (g v).testBit k = true by rw [h01.mp q]; decide)] at ih
      rw [nI_1]; exact ih
    · rw [if_pos (tb_of q), ek] at ih
      rw [nI_1]; exact ih
  · exact b_X10_greatestPart_5 H (r_many X) (fun _ => b_X10_greatestPart_50 ⟨rfl, rfl⟩) (fun q => absurd (nI_le (Nat.le_refl n) (by omega)) q)
def mm (g w : Nat → Nat) (n k v : Nat) : Nat := if k = 0 then mE g n v else mg g w n v (decide (k = 2))
theorem mm_le {k v : Nat} (hn : n ≤ 10) (hw : ∀ i, w i ≤ 99) : mm g w n k v ≤ 990 := by
  unfold mm; split
  · have := mE_le (g := g) (n := n) (v := v); omega
  · exact mg_le hn hw
theorem r_measure (X : VW c n g) (K : GOK g n) (Y : MWt c w) {v k : Nat} (hv : v < n) (hk : k < 3) : MSE m_X10_measure (d + 4) [.ref 70, .int (nI v), .int (nI k)] (hp c) (some (.int (nI (mm g w n k v)))) (hp c) := by
  obtain ⟨fs, H⟩ := X.H
  refine e_X10_measure (b_X10_measure_0 (fun q => b_X10_measure_12 (fun q2 => b_X10_measure_23 (b_X10_measure_24 H (r_greatestPart (b := false) X K Y hv) (b_X10_measure_27 ⟨?_, rfl⟩))) (fun q2 => b_X10_measure_19 (b_X10_measure_24 H (r_greatestPart (b := true) X K Y hv) (b_X10_measure_27 ⟨?_, rfl⟩)))) (fun q => b_X10_measure_4 H (r_eccentricity X K hv) (b_X10_measure_27 ⟨?_, rfl⟩)))
  · have h0 : k ≠ 0 := fun e => q (by rw [e]; rfl)
    have h2 : k ≠ 2 := fun e => q2 (by rw [e]; rfl)
    unfold mm
    rw [if_neg h0, decide_eq_false h2]
  · have h0 : k ≠ 0 := fun e => q (by rw [e]; rfl)
    have h2 : k = 2 := (i_eq (a := k) (b := 2) (by omega) (by omega)).mp q2
    unfold mm
    rw [if_neg h0, decide_eq_true h2]
  · have h0 : k = 0 := (i_eq0 (by omega)).mp q
    unfold mm
    rw [if_pos h0]
theorem r_leastOf (X : VW c n g) (K : GOK g n) (Y : MWt c w) {s k0 : Nat} (hs : s < 1024) (hk0 : k0 < 3) : MSE m_X10_leastOf (d + 5) [.ref 70, .int (nI s), .int (nI k0)] (hp c) (some (.int (nI (lbU s (mm g w n k0) n).2))) (hp c) := by
  have hn := X.1
  have hw := Y.1
  obtain ⟨fs, H⟩ := X.H
  refine e_X10_leastOf (b_X10_leastOf_0 ?_)
  refine up_all (n := n) (T := fun k => a_X10_leastOf_8 (d + 5) 0 0 70 (nI s) (nI k0) (nI (lbU s (mm g w n k0) k).2) (nI (lbU s (mm g w n k0) k).1) (nI k) (hp c) (rI (nI (lbU s (mm g w n k0) n).2) (hp c))) (fun k hk ih => ?_) ?_
  · have ih : a_X10_leastOf_8 (d + 5) 0 0 70 (nI s) (nI k0) (nI (lbU s (mm g w n k0) (k + 1)).2) (nI (lbU s (mm g w n k0) (k + 1)).1) (nI (k + 1)) (hp c) (rI (nI (lbU s (mm g w n k0) n).2) (hp c)) := ih
    obtain ⟨hl1, hl2⟩ := lbU_le (m := s) (e := mm g w n k0) (B := 990) (fun i => mm_le hn hw) k (by omega)
    have hek : mm g w n k0 k ≤ 990 := mm_le hn hw
    rw [lbU_s] at ih
    refine b_X10_leastOf_8 H (r_many X) (fun q => absurd q (nI_ge hk (by omega))) (fun _ => b_X10_leastOf_17 (r_has (by omega) (by omega)) (fun q => b_X10_leastOf_29 H (r_measure X K Y hk hk0) (fun q2 => b_X10_leastOf_49 (b_X10_leastOf_75 ?_)) (fun q2 => b_X10_leastOf_42 (fun q3 => b_X10_leastOf_61 (fun q4 => b_X10_leastOf_75 ?_) (fun q4 => b_X10_leastOf_68 (b_X10_leastOf_75 ?_))) (fun q3 => b_X10_leastOf_49 (b_X10_leastOf_75 ?_)))) (fun q => b_X10_leastOf_26 (b_X10_leastOf_75 ?_)))
    · rw [nI_1, i_shl1 (by omega)]
      rw [if_pos (tb_of q), if_pos (Or.inl ((i_eq0 (by omega)).mp q2))] at ih
      exact ih
    · rw [nI_1]
      have e3 := (nI_leI (by omega) (by omega)).mp q3
      have e4 : ¬ mm g w n k0 k = (lbU s (mm g w n k0) k).1 := fun e => q4 (by rw [e])
      have e2 : ¬ (lbU s (mm g w n k0) k).2 = 0 := fun e => q2 (by rw [e]; rfl)
      rw [if_pos (tb_of q), if_neg (by omega), if_neg e4] at ih
      exact ih
    · rw [nI_1, i_shl1 (by omega), i_or]
      have e3 := (nI_leI (by omega) (by omega)).mp q3
      have e4 : mm g w n k0 k = (lbU s (mm g w n k0) k).1 := (i_eq (by omega) (by omega)).mp q4
      have e2 : ¬ (lbU s (mm g w n k0) k).2 = 0 := fun e => q2 (by rw [e]; rfl)
      rw [if_pos (tb_of q), if_neg (by omega), if_pos e4] at ih
      exact ih
    · rw [nI_1, i_shl1 (by omega)]
      have e3 : ¬ (lbU s (mm g w n k0) k).1 ≤ mm g w n k0 k := fun e => q3 (nI_le e (by omega))
      rw [if_pos (tb_of q), if_pos (Or.inr (by omega))] at ih
      exact ih
    · rw [nI_1]
      rw [if_neg (show ¬ s.testBit k = true by rw [h01.mp q]; decide)] at ih
      exact ih
  · exact b_X10_leastOf_8 H (r_many X) (fun _ => b_X10_leastOf_81 ⟨rfl, rfl⟩) (fun q => absurd (nI_le (Nat.le_refl n) (by omega)) q)
theorem r_diameter (X : VW c n g) (K : GOK g n) {s : Nat} (hs : s < 1024) : MSE m_X10_diameter (d + 4) [.ref 70, .int (nI s)] (hp c) (some (.int (nI (mxU s (mE g n) n)))) (hp c) := by
  have hn := X.1
  obtain ⟨fs, H⟩ := X.H
  refine e_X10_diameter (b_X10_diameter_0 ?_)
  refine up_all (n := n) (T := fun k => a_X10_diameter_4 (d + 4) 0 0 70 (nI s) (nI (mxU s (mE g n) k)) (nI k) (hp c) (rI (nI (mxU s (mE g n) n)) (hp c))) (fun k hk ih => ?_) ?_
  · have ih : a_X10_diameter_4 (d + 4) 0 0 70 (nI s) (nI (mxU s (mE g n) (k + 1))) (nI (k + 1)) (hp c) (rI (nI (mxU s (mE g n) n)) (hp c)) := ih
    have hb1 : mxU s (mE g n) k ≤ n := mxU_le (fun _ => mE_le) k
    have hb2 : mE g n k ≤ n := mE_le
    rw [mxU_s] at ih
    refine b_X10_diameter_4 H (r_many X) (fun q => absurd q (nI_ge hk (by omega))) (fun _ => b_X10_diameter_12 (r_has (by omega) (by omega)) (fun q => b_X10_diameter_30 ?_) (fun q => b_X10_diameter_20 H (r_eccentricity X K hk) (s_maxN (by omega) (by omega)) (b_X10_diameter_30 ?_)))
    · rw [if_neg (show ¬ s.testBit k = true by rw [h01.mp q]; decide)] at ih
      rw [nI_1]; exact ih
    · rw [if_pos (tb_of q)] at ih
      rw [nI_1]; exact ih
  · exact b_X10_diameter_4 H (r_many X) (fun _ => b_X10_diameter_36 ⟨rfl, rfl⟩) (fun q => absurd (nI_le (Nat.le_refl n) (by omega)) q)
def lvB (g : Nat → Nat) (s v : Nat) : Bool := s.testBit v && decide (pc (g v) = 1)
theorem r_leavesIn (X : VW c n g) {s : Nat} (hs : s < 1024) : MSE m_X10_leavesIn (d + 2) [.ref 70, .int (nI s)] (hp c) (some (.int (nI (cnU (lvB g s) n)))) (hp c) := by
  have hn := X.1
  obtain ⟨fs, H⟩ := X.H
  refine e_X10_leavesIn (b_X10_leavesIn_0 ?_)
  refine up_all (n := n) (T := fun k => a_X10_leavesIn_4 (d + 2) 0 0 70 (nI s) (nI (cnU (lvB g s) k)) (nI k) (hp c) (rI (nI (cnU (lvB g s) n)) (hp c))) (fun k hk ih => ?_) ?_
  · have ih : a_X10_leavesIn_4 (d + 2) 0 0 70 (nI s) (nI (cnU (lvB g s) (k + 1))) (nI (k + 1)) (hp c) (rI (nI (cnU (lvB g s) n)) (hp c)) := ih
    have hpl := pc_le (g k)
    rw [cnU_s] at ih
    have z0 : nI (cnU (lvB g s) k) + 0 = nI (cnU (lvB g s) k) := nI_add _ 0
    refine b_X10_leavesIn_4 H (r_many X) (fun q => absurd q (nI_ge hk (by omega))) (fun _ => b_X10_leavesIn_12 (r_has (by omega) (by omega)) (fun q => b_X10_leavesIn_37 (b_X10_leavesIn_38 ?_)) (fun q => b_X10_leavesIn_21 H (r_at X (by omega)) (r_ones (X.2.1 k)) (fun q2 => b_X10_leavesIn_37 (b_X10_leavesIn_38 ?_)) (fun q2 => b_X10_leavesIn_33 (b_X10_leavesIn_38 ?_))))
    · have e : ¬ lvB g s k = true := by unfold lvB; rw [h01.mp q]; simp
      rw [if_neg e] at ih
      rw [nI_1, z0]; exact ih
    · have e : ¬ lvB g s k = true := by
        unfold lvB
        rw [decide_eq_false (fun e => q2 (by rw [e]; rfl))]; simp
      rw [if_neg e] at ih
      rw [nI_1, z0]; exact ih
    · have e : lvB g s k = true := by
        unfold lvB
        rw [tb_of q, decide_eq_true ((i_eq (b := 1) (by omega) (by decide)).mp q2)]; rfl
      rw [if_pos e] at ih
      rw [nI_1, nI_1]; exact ih
  · exact b_X10_leavesIn_4 H (r_many X) (fun _ => b_X10_leavesIn_46 ⟨rfl, rfl⟩) (fun q => absurd (nI_le (Nat.le_refl n) (by omega)) q)
end
