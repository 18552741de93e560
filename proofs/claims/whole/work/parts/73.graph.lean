/-! graphs: what hangs together -/
/-- v hangs with u, by steps into A -/
def cn (g : Nat → Nat) (A : Nat → Prop) (u v : Nat) : Prop := ∀ S : Nat → Prop, S u → (∀ x y, S x → (g x).testBit y = true → A y → S y) → S v
/-- what a graph is -/
def GR (g : Nat → Nat) (n : Nat) : Prop := (∀ i, g i < 2 ^ n) ∧ (∀ u v, (g u).testBit v = (g v).testBit u) ∧ ∀ u, (g u).testBit u = false
/-- k steps lead from u to v -/
def ch (g : Nat → Nat) : Nat → Nat → Nat → Prop
  | 0, u, v => u = v
  | k + 1, u, v => ∃ x, ch g k u x ∧ (g x).testBit v = true
/-- what is met within k steps -/
def bal (g : Nat → Nat) (n u : Nat) : Nat → Nat
  | 0 => 2 ^ u
  | k + 1 => wn g n (bal g n u k)
def itF (F : Nat → Nat) : Nat → Nat → Nat
  | 0, s => s
  | k + 1, s => itF F k (F s)
def TT (_ : Nat) : Prop := True
section
variable {g : Nat → Nat} {A B : Nat → Prop} {u v w x y n : Nat}
theorem cn_rf : cn g A u u := fun _ h _ => h
theorem cn_tr (h1 : cn g A u v) (h2 : cn g A v w) : cn g A u w := fun S h hs => h2 S (h1 S h hs) hs
theorem cn_st (h : cn g A u x) (e : (g x).testBit y = true) (ha : A y) : cn g A u y := fun S hS hs => hs x y (h S hS hs) e ha
theorem cn_mono {g' : Nat → Nat} (h : cn g A u v) (hg : ∀ x y, (g x).testBit y = true → A y → (g' x).testBit y = true) (hA : ∀ y, A y → B y) : cn g' B u v := fun S hS hs => h S hS (fun x y hx e ha => hs x y hx (hg x y e ha) (hA y ha))
theorem cn_TT (h : cn g A u v) : cn g TT u v := cn_mono h (fun _ _ e _ => e) (fun _ _ => trivial)
theorem cn_in (h : cn g A u v) (hu : A u) : A v := h A hu (fun _ _ _ _ ha => ha)
theorem cn_ind {S : Nat → Prop} (h : cn g A u v) (hS : S u) (hs : ∀ x y, cn g A u x → S x → (g x).testBit y = true → A y → S y) : S v :=
  (h (fun x => cn g A u x ∧ S x) ⟨cn_rf, hS⟩ (fun x y hx e ha => ⟨cn_st hx.1 e ha, hs x y hx.1 hx.2 e ha⟩)).2
theorem cn_sy (hs : ∀ u v, (g u).testBit v = (g v).testBit u) (h : cn g A u v) (hu : A u) : cn g A v u :=
  (h (fun x => A x ∧ cn g A x u) ⟨hu, cn_rf⟩ (fun x y hx e ha => ⟨ha, cn_tr (cn_st cn_rf (by rw [hs y x]; exact e) hx.1) hx.2⟩)).2
theorem GR.lt (G : GR g n) (h : (g x).testBit y = true) : y < n := bit_lt (G.1 x) h
theorem GR.sy (G : GR g n) (h : (g x).testBit y = true) : (g y).testBit x = true := by rw [G.2.1 y x]; exact h
theorem GR.lt' (G : GR g n) (h : (g x).testBit y = true) : x < n := G.lt (G.sy h)
theorem GR.ne (G : GR g n) (h : (g x).testBit y = true) : x ≠ y := fun e => by rw [e, G.2.2 y] at h; cases h
theorem GR.k (G : GR g n) (hn : n ≤ 10) : ∀ i, g i < 1024 := fun i => Nat.lt_of_lt_of_le (G.1 i) (pow_le10 hn)
theorem GR.into (G : GR g n) (h : cn g A u v) (hu : u < n) : v < n := cn_ind (S := fun v => v < n) h hu (fun _ _ _ _ e _ => G.lt e)
theorem GR.cns (G : GR g n) (h : cn g A u v) (hu : A u) : cn g A v u := cn_sy G.2.1 h hu
theorem wnU_bit {s : Nat} : ∀ k j, (wnU g s k).testBit j = true ↔ s.testBit j = true ∨ ∃ i, i < k ∧ s.testBit i = true ∧ (g i).testBit j = true
  | 0, j => ⟨Or.inl, fun h => by
      rcases h with h | ⟨i, hi, _⟩
      · exact h
      · omega⟩
  | k + 1, j => by
    unfold wnU
    by_cases hk : s.testBit k = true
    · rw [if_pos hk, Nat.testBit_or, Bool.or_eq_true, wnU_bit k j]
      constructor
      · rintro ((h | ⟨i, hi, h1, h2⟩) | h)
        · exact Or.inl h
        · exact Or.inr ⟨i, by omega, h1, h2⟩
        · exact Or.inr ⟨k, by omega, hk, h⟩
      · rintro (h | ⟨i, hi, h1, h2⟩)
        · exact Or.inl (Or.inl h)
        · by_cases e : i = k
          · subst e; exact Or.inr h2
          · exact Or.inl (Or.inr ⟨i, by omega, h1, h2⟩)
    · rw [if_neg hk, wnU_bit k j]
      constructor
      · rintro (h | ⟨i, hi, h1, h2⟩)
        · exact Or.inl h
        · exact Or.inr ⟨i, by omega, h1, h2⟩
      · rintro (h | ⟨i, hi, h1, h2⟩)
        · exact Or.inl h
        · by_cases e : i = k
          · subst e; exact absurd h1 hk
          · exact Or.inr ⟨i, by omega, h1, h2⟩
theorem wn_bit {s j : Nat} : (wn g n s).testBit j = true ↔ s.testBit j = true ∨ ∃ i, i < n ∧ s.testBit i = true ∧ (g i).testBit j = true := wnU_bit n j
theorem bit_eq {a b j : Nat} (h : a.testBit j = true ↔ b.testBit j = true) : a.testBit j = b.testBit j := by
  cases h1 : a.testBit j <;> cases h2 : b.testBit j
  · rfl
  · rw [h1, h2] at h; exact absurd (h.mpr rfl) (by decide)
  · rw [h1, h2] at h; exact absurd (h.mp rfl) (by decide)
  · rfl
theorem pc_mono {a b : Nat} (h : ∀ j, a.testBit j = true → b.testBit j = true) : pc a ≤ pc b := by
  unfold pc
  exact List.countP_mono_left (fun x _ hx => h x hx)
theorem pc_lt' {a b : Nat} (h : ∀ j, a.testBit j = true → b.testBit j = true) (hb : b < 1024) (hne : a ≠ b) : pc a < pc b := by
  have : ∃ j, b.testBit j = true ∧ ¬ a.testBit j = true := by
    apply Classical.byContradiction
    intro hc
    apply hne
    apply set_ext
    intro j
    refine bit_eq ⟨h j, fun hj => ?_⟩
    apply Classical.byContradiction
    intro ha
    exact hc ⟨j, hj, ha⟩
  obtain ⟨j, hj, ha⟩ := this
  have hj10 : j < 10 := bit_lt (k := 10) hb hj
  have h1 := pc_df1 hj10 hj
  have h2 : pc a ≤ pc (df b (2 ^ j)) := pc_mono (fun i hi => by
    rw [df_bit, pow_bit, h i hi]
    have : j ≠ i := fun e => ha (by rw [e]; exact hi)
    rw [decide_eq_false this]; rfl)
  omega
theorem pc_n {a : Nat} (h : a < 2 ^ n) (hn : n ≤ 10) : pc a ≤ n := by
  have := pc_mono (a := a) (b := al n) (fun j hj => by rw [al_bit]; exact decide_eq_true (bit_lt h hj))
  rw [pc_al n hn] at this; exact this
theorem pc_pow {v : Nat} (hv : v < 10) : pc (2 ^ v) = 1 := by
  unfold pc
  rw [← cP_one v hv]
  congr 1
  funext i
  rw [pow_bit]
  by_cases e : v = i
  · rw [decide_eq_true e, decide_eq_true e.symm]
  · rw [decide_eq_false e, decide_eq_false (fun q => e q.symm)]
/-- what grows within few vertices comes to rest -/
theorem itF_fix {F : Nat → Nat} {I : Nat → Prop} (hI : ∀ s, I s → I (F s)) (hF : ∀ s, I s → F s < 1024 ∧ ∀ j, s.testBit j = true → (F s).testBit j = true) : ∀ k s, I s → F (itF F k s) = itF F k s ∨ pc s + k ≤ pc (itF F k s)
  | 0, s, _ => Or.inr (Nat.le_refl _)
  | k + 1, s, h => by
    by_cases e : F s = s
    · have hst : ∀ j, itF F j s = s := fun j => by
        induction j with
        | zero => rfl
        | succ j ih => show itF F j (F s) = s; rw [e]; exact ih
      exact Or.inl (by rw [hst]; exact e)
    · rcases itF_fix hI hF k (F s) (hI s h) with h1 | h1
      · exact Or.inl h1
      · obtain ⟨h2, h3⟩ := hF s h
        have := pc_lt' h3 h2 (fun q => e q.symm)
        exact Or.inr (by show pc s + (k + 1) ≤ pc (itF F k (F s)); omega)
theorem itF_inv {F : Nat → Nat} {I : Nat → Prop} (hI : ∀ s, I s → I (F s)) : ∀ k s, I s → I (itF F k s)
  | 0, _, h => h
  | k + 1, s, h => itF_inv hI k (F s) (hI s h)
theorem rcU_it {S : Nat} : ∀ k s, rcU g n S k s = itF (fun s => wn g n s &&& S) k s
  | 0, _ => rfl
  | k + 1, s => rcU_it k _
/-- what is reached, in the class -/
theorem rc_bit {S : Nat} (G : GR g n) (hn : n ≤ 10) (hS : S < 2 ^ n) (hv : v < n) (hvS : S.testBit v = true) : (rc g n S v).testBit x = true ↔ cn g (fun y => S.testBit y = true) v x := by
  have hG := G.k hn
  obtain ⟨I, hI⟩ : ∃ I : Nat → Prop, I = fun s => s < 2 ^ n ∧ s.testBit v = true ∧ ∀ j, s.testBit j = true → S.testBit j = true ∧ cn g (fun y => S.testBit y = true) v j := ⟨_, rfl⟩
  obtain ⟨F, hF⟩ : ∃ F : Nat → Nat, F = fun s => wn g n s &&& S := ⟨_, rfl⟩
  have h1 : ∀ s, I s → I (F s) := fun s h => by
    rw [hI] at h; rw [hI, hF]
    obtain ⟨a1, a2, a3⟩ := h
    refine ⟨Nat.lt_of_le_of_lt Nat.and_le_right hS, ?_, fun j hj => ?_⟩
    · rw [Nat.testBit_and, hvS, wn_bit.mpr (Or.inl a2)]; rfl
    · rw [Nat.testBit_and, Bool.and_eq_true] at hj
      refine ⟨hj.2, ?_⟩
      rcases wn_bit.mp hj.1 with h | ⟨i, hi, h1, h2⟩
      · exact (a3 j h).2
      · exact cn_st (a3 i h1).2 h2 hj.2
  have h2 : ∀ s, I s → F s < 1024 ∧ ∀ j, s.testBit j = true → (F s).testBit j = true := fun s h => by
    have h' := h1 s h
    rw [hI] at h h'
    refine ⟨Nat.lt_of_lt_of_le h'.1 (pow_le10 hn), fun j hj => ?_⟩
    rw [hF]
    show (wn g n s &&& S).testBit j = true
    rw [Nat.testBit_and, wn_bit.mpr (Or.inl hj), (h.2.2 j hj).1]; rfl
  have h0 : I (2 ^ v) := by
    rw [hI]
    refine ⟨Nat.pow_lt_pow_right (by decide) hv, by rw [pow_bit, decide_eq_true rfl], fun j hj => ?_⟩
    rw [pow_bit] at hj
    have e := of_decide_eq_true hj
    subst e
    exact ⟨hvS, cn_rf⟩
  have e : rc g n S v = itF F n (2 ^ v) := by unfold rc; rw [rcU_it, hF]
  have hinv := itF_inv h1 n (2 ^ v) h0
  rw [e]
  refine ⟨fun hx => ?_, fun hx => ?_⟩
  · rw [hI] at hinv; exact (hinv.2.2 x hx).2
  · have hfix : F (itF F n (2 ^ v)) = itF F n (2 ^ v) := by
      rcases itF_fix h1 h2 n (2 ^ v) h0 with h | h
      · exact h
      · rw [pc_pow (by omega)] at h
        rw [hI] at hinv
        have := pc_n hinv.1 hn
        omega
    rw [hI] at hinv
    refine cn_ind (S := fun x => (itF F n (2 ^ v)).testBit x = true) hx hinv.2.1 (fun a b _ hs hab hb => ?_)
    rw [← hfix, hF]
    show (wn g n (itF (fun s => wn g n s &&& S) n (2 ^ v)) &&& S).testBit b = true
    have hs' : (itF (fun s => wn g n s &&& S) n (2 ^ v)).testBit a = true := by rw [hF] at hs; exact hs
    rw [Nat.testBit_and, hb, wn_bit.mpr (Or.inr ⟨a, G.lt' hab, hs', hab⟩)]; rfl
theorem comp_bit (G : GR g n) (hn : n ≤ 10) (hv : v < n) : (comp g n v).testBit x = true ↔ cn g TT v x := by
  have hal : al n < 2 ^ n := Nat.sub_lt (Nat.two_pow_pos n) (by decide)
  unfold comp
  rw [rc_bit G hn hal hv (by rw [al_bit]; exact decide_eq_true hv)]
  refine ⟨fun h => cn_TT h, fun h => cn_ind (S := fun x => cn g (fun y => (al n).testBit y = true) v x) h cn_rf (fun a b _ hs e _ => cn_st hs e ?_)⟩
  rw [al_bit]; exact decide_eq_true (G.lt e)
theorem part_bit (G : GR g n) (hn : n ≤ 10) (hv : v < n) (huv : v ≠ u) : (rc g n (df (al n) (2 ^ u)) v).testBit x = true ↔ cn g (fun y => y ≠ u) v x := by
  have hal : al n < 2 ^ n := Nat.sub_lt (Nat.two_pow_pos n) (by decide)
  have hb : ∀ y, (df (al n) (2 ^ u)).testBit y = true ↔ y < n ∧ y ≠ u := fun y => by
    rw [df_bit, al_bit, pow_bit]
    by_cases h1 : y < n <;> by_cases h2 : u = y <;> simp [h1, h2]
    · intro e; exact h2 e.symm
  rw [rc_bit G hn (df_lt hal) hv ((hb v).mpr ⟨hv, huv⟩)]
  refine ⟨fun h => cn_mono h (fun _ _ e _ => e) (fun y hy => ((hb y).mp hy).2), fun h => ?_⟩
  exact cn_ind (S := fun x => cn g (fun y => (df (al n) (2 ^ u)).testBit y = true) v x) h cn_rf (fun a b _ hs e hb' => cn_st hs e ((hb b).mpr ⟨G.lt e, hb'⟩))
/-! .. in the reference -/
theorem riU_bit {o : Option Nat} {s : Nat} : ∀ k j, (riU g o s k).testBit j = true ↔ s.testBit j = true ∨ ∃ i, i < k ∧ s.testBit i = true ∧ (g i).testBit j = true ∧ o ≠ some j
  | 0, j => ⟨Or.inl, fun h => by
      rcases h with h | ⟨i, hi, _⟩
      · exact h
      · omega⟩
  | k + 1, j => by
    have hrm : (rmk g o k).testBit j = true ↔ (g k).testBit j = true ∧ o ≠ some j := by
      cases o with
      | none => exact ⟨fun h => ⟨h, fun e => by cases e⟩, fun h => h.1⟩
      | some b =>
        show (df (g k) (2 ^ b)).testBit j = true ↔ _
        rw [df_bit, pow_bit]
        by_cases e : b = j
        · subst e; simp
        · simp [e]
    unfold riU
    by_cases hk : s.testBit k = true
    · rw [if_pos hk, Nat.testBit_or, Bool.or_eq_true, riU_bit k j, hrm]
      constructor
      · rintro ((h | ⟨i, hi, h1, h2⟩) | h)
        · exact Or.inl h
        · exact Or.inr ⟨i, by omega, h1, h2⟩
        · exact Or.inr ⟨k, by omega, hk, h⟩
      · rintro (h | ⟨i, hi, h1, h2⟩)
        · exact Or.inl (Or.inl h)
        · by_cases e : i = k
          · subst e; exact Or.inr h2
          · exact Or.inl (Or.inr ⟨i, by omega, h1, h2⟩)
    · rw [if_neg hk, riU_bit k j]
      constructor
      · rintro (h | ⟨i, hi, h1, h2⟩)
        · exact Or.inl h
        · exact Or.inr ⟨i, by omega, h1, h2⟩
      · rintro (h | ⟨i, hi, h1, h2⟩)
        · exact Or.inl h
        · by_cases e : i = k
          · subst e; exact absurd h1 hk
          · exact Or.inr ⟨i, by omega, h1, h2⟩
theorem ri_bit {o : Option Nat} {s j : Nat} : (ri g n o s).testBit j = true ↔ s.testBit j = true ∨ ∃ i, i < n ∧ s.testBit i = true ∧ (g i).testBit j = true ∧ o ≠ some j := riU_bit n j
theorem mrU_it {o : Option Nat} : ∀ k s, mrU g n o k s = itF (ri g n o) k s
  | 0, _ => rfl
  | k + 1, s => by
    show (if ri g n o s = s then s else mrU g n o k (ri g n o s)) = itF (ri g n o) k (ri g n o s)
    by_cases e : ri g n o s = s
    · rw [if_pos e, e]
      have hst : ∀ j, itF (ri g n o) j s = s := fun j => by
        induction j with
        | zero => rfl
        | succ j ih => show itF (ri g n o) j (ri g n o s) = s; rw [e]; exact ih
      exact (hst k).symm
    · rw [if_neg e]; exact mrU_it k _
theorem mr_fix {o : Option Nat} (hg : ∀ i, g i < 1024) (hv : v < 10) : ri g n o (mr g n o v) = mr g n o v := by
  have h1 : ∀ s, s < 1024 → ri g n o s < 1024 := fun s hs => riU_lt hg hs n
  unfold mr
  rw [mrU_it]
  rcases itF_fix (F := ri g n o) (I := fun s => s < 1024) h1 (fun s hs => ⟨h1 s hs, fun j hj => ri_bit.mpr (Or.inl hj)⟩) 10 (2 ^ v) (pow_lt hv) with h | h
  · exact h
  · rw [pc_pow hv] at h
    have := pc_le (itF (ri g n o) 10 (2 ^ v))
    omega
theorem mr_bit {o : Option Nat} (G : GR g n) (hn : n ≤ 10) (hv : v < n) : (mr g n o v).testBit x = true ↔ cn g (fun y => o ≠ some y) v x := by
  have hG := G.k hn
  have hfix := mr_fix (n := n) (o := o) hG (show v < 10 by omega)
  have e : mr g n o v = itF (ri g n o) 10 (2 ^ v) := by unfold mr; rw [mrU_it]
  refine ⟨fun hx => ?_, fun hx => ?_⟩
  · have := itF_inv (F := ri g n o) (I := fun s => ∀ j, s.testBit j = true → cn g (fun y => o ≠ some y) v j) (fun s hs j hj => by
      rcases ri_bit.mp hj with h | ⟨i, hi, h1, h2, h3⟩
      · exact hs j h
      · exact cn_st (hs i h1) h2 h3) 10 (2 ^ v) (fun j hj => by
        rw [pow_bit] at hj
        have e := of_decide_eq_true hj
        subst e; exact cn_rf)
    rw [← e] at this
    exact this x hx
  · have h0 : (mr g n o v).testBit v = true := by
      have := itF_inv (F := ri g n o) (I := fun s => s.testBit v = true) (fun s hs => ri_bit.mpr (Or.inl hs)) 10 (2 ^ v) (by rw [pow_bit, decide_eq_true rfl])
      rw [← e] at this; exact this
    refine cn_ind (S := fun x => (mr g n o v).testBit x = true) hx h0 (fun a b _ hs hab hb => ?_)
    rw [← hfix]
    exact ri_bit.mpr (Or.inr ⟨a, G.lt' hab, hs, hab, hb⟩)
theorem mc_comp (G : GR g n) (hn : n ≤ 10) (hv : v < n) : mc g n v = comp g n v := by
  apply set_ext
  intro j
  refine bit_eq ?_
  rw [comp_bit G hn hv]
  unfold mc
  rw [mr_bit G hn hv]
  exact ⟨fun h => cn_TT h, fun h => cn_mono h (fun _ _ e _ => e) (fun y _ => by intro e; cases e)⟩
theorem mr_part (G : GR g n) (hn : n ≤ 10) (hv : v < n) (huv : v ≠ u) : mr g n (some u) v = rc g n (df (al n) (2 ^ u)) v := by
  apply set_ext
  intro j
  refine bit_eq ?_
  rw [part_bit G hn hv huv, mr_bit G hn hv]
  exact ⟨fun h => cn_mono h (fun _ _ e _ => e) (fun y hy e => hy (by rw [e])), fun h => cn_mono h (fun _ _ e _ => e) (fun y hy e => hy (Option.some.inj e).symm)⟩
/-! distances -/
theorem ch_app : ∀ k j u v, ch g (j + k) u v ↔ ∃ x, ch g j u x ∧ ch g k x v
  | 0, j, u, v => ⟨fun h => ⟨v, h, rfl⟩, fun ⟨x, h, e⟩ => by rw [show x = v from e] at h; exact h⟩
  | k + 1, j, u, v => by
    constructor
    · rintro ⟨y, h1, h2⟩
      obtain ⟨x, h3, h4⟩ := (ch_app k j u y).mp h1
      exact ⟨x, h3, y, h4, h2⟩
    · rintro ⟨x, h1, y, h2, h3⟩
      exact ⟨y, (ch_app k j u y).mpr ⟨x, h1, h2⟩, h3⟩
theorem ch_one (h : (g u).testBit v = true) : ch g 1 u v := ⟨u, rfl, h⟩
theorem ch_sy (hs : ∀ u v, (g u).testBit v = (g v).testBit u) : ∀ k u v, ch g k u v → ch g k v u
  | 0, _, _, h => Eq.symm h
  | k + 1, u, v, ⟨x, h1, h2⟩ => by
    have h3 : ch g 1 v x := ch_one (by rw [hs v x]; exact h2)
    have := (ch_app k 1 v u).mpr ⟨x, h3, ch_sy hs k u x h1⟩
    rw [Nat.add_comm] at this; exact this
theorem ch_cn : ∀ k v, ch g k u v → cn g TT u v
  | 0, v, h => by rw [show u = v from h]; exact cn_rf
  | k + 1, v, ⟨x, h1, h2⟩ => cn_st (ch_cn k x h1) h2 trivial
theorem cn_ch (h : cn g TT u v) : ∃ k, ch g k u v := cn_ind (S := fun v => ∃ k, ch g k u v) h ⟨0, rfl⟩ (fun _ _ _ ⟨k, hk⟩ e _ => ⟨k + 1, _, hk, e⟩)
theorem ch_lt (G : GR g n) (hu : u < n) {k : Nat} (h : ch g k u v) : v < n := G.into (ch_cn k v h) hu
theorem bal_bit (G : GR g n) (hu : u < n) : ∀ k v, (bal g n u k).testBit v = true ↔ ∃ i, i ≤ k ∧ ch g i u v
  | 0, v => by
    show (2 ^ u).testBit v = true ↔ _
    rw [pow_bit]
    exact ⟨fun h => ⟨0, Nat.le_refl _, show u = v from of_decide_eq_true h⟩, fun ⟨i, hi, h⟩ => by
      have : i = 0 := by omega
      subst this
      have h : u = v := h
      exact decide_eq_true h⟩
  | k + 1, v => by
    show (wn g n (bal g n u k)).testBit v = true ↔ _
    rw [wn_bit, bal_bit G hu k v]
    constructor
    · rintro (⟨i, hi, h⟩ | ⟨i, hi, h1, h2⟩)
      · exact ⟨i, by omega, h⟩
      · obtain ⟨j, hj, h3⟩ := (bal_bit G hu k i).mp h1
        exact ⟨j + 1, by omega, i, h3, h2⟩
    · rintro ⟨i, hi, h⟩
      by_cases e : i ≤ k
      · exact Or.inl ⟨i, e, h⟩
      · have : i = k + 1 := by omega
        subst this
        obtain ⟨y, h1, h2⟩ := h
        exact Or.inr ⟨y, ch_lt G hu h1, (bal_bit G hu k y).mpr ⟨k, Nat.le_refl _, h1⟩, h2⟩
theorem bal_lt (G : GR g n) (hu : u < n) (k : Nat) : bal g n u k < 2 ^ n := lt_of_bits (fun j hj => by
  obtain ⟨i, _, h⟩ := (bal_bit G hu k j).mp hj
  exact ch_lt G hu h)
theorem bal_it : ∀ k j, bal g n u (j + k) = itF (wn g n) k (bal g n u j)
  | 0, _ => rfl
  | k + 1, j => by
    show bal g n u (j + (k + 1)) = itF (wn g n) k (bal g n u (j + 1))
    rw [← bal_it k (j + 1), show j + 1 + k = j + (k + 1) by omega]
theorem bal_fix (G : GR g n) (hn : n ≤ 10) (hu : u < n) : wn g n (bal g n u (n - 1)) = bal g n u (n - 1) := by
  have e := bal_it (g := g) (n := n) (u := u) (n - 1) 0
  rw [Nat.zero_add] at e
  have hb : ∀ s, s < 2 ^ n → wn g n s < 2 ^ n := fun s hs => lt_of_bits (fun j hj => by
    rcases wn_bit.mp hj with h | ⟨i, _, _, h⟩
    · exact bit_lt hs h
    · exact G.lt h)
  rcases itF_fix (F := wn g n) (I := fun s => s < 2 ^ n) hb (fun s hs => ⟨Nat.lt_of_lt_of_le (hb s hs) (pow_le10 hn), fun j hj => wn_bit.mpr (Or.inl hj)⟩) (n - 1) (bal g n u 0) (bal_lt G hu 0) with h | h
  · rw [e]; exact h
  · rw [show bal g n u 0 = 2 ^ u from rfl, pc_pow (by omega)] at h
    rw [show itF (wn g n) (n - 1) (2 ^ u) = bal g n u (n - 1) from e.symm] at h
    have hl := bal_lt G hu (n - 1)
    have hfull : bal g n u (n - 1) = al n := by
      apply Classical.byContradiction
      intro hne
      have := pc_lt' (a := bal g n u (n - 1)) (b := al n) (fun j hj => by rw [al_bit]; exact decide_eq_true (bit_lt hl hj)) (al_lt hn) hne
      rw [pc_al n hn] at this
      omega
    apply set_ext
    intro j
    refine bit_eq ⟨fun hj => ?_, fun hj => wn_bit.mpr (Or.inl hj)⟩
    rw [hfull, al_bit]
    exact decide_eq_true (bit_lt (hb _ hl) hj)
theorem bal_stay (G : GR g n) (hn : n ≤ 10) (hu : u < n) : ∀ j, bal g n u (n - 1 + j) = bal g n u (n - 1)
  | 0 => rfl
  | j + 1 => by
    show wn g n (bal g n u (n - 1 + j)) = _
    rw [bal_stay G hn hu j]; exact bal_fix G hn hu
theorem dsU_some {b : Nat} : ∀ j k r, dsU g n b j k (bal g n u k) = some r → (bal g n u r).testBit b = true ∧ ∀ i, k ≤ i → i < r → ¬ (bal g n u i).testBit b = true
  | 0, _, _, h => by cases h
  | j + 1, k, r, h => by
    unfold dsU at h
    split at h
    · rename_i hb
      cases h
      exact ⟨hb, fun i h1 h2 => by omega⟩
    · rename_i hb
      obtain ⟨h1, h2⟩ := dsU_some j (k + 1) r h
      refine ⟨h1, fun i h3 h4 => ?_⟩
      by_cases e : i = k
      · subst e; exact hb
      · exact h2 i (by omega) h4
theorem dsU_none {b : Nat} : ∀ j k, dsU g n b j k (bal g n u k) = none → ∀ i, k ≤ i → i < k + j → ¬ (bal g n u i).testBit b = true
  | 0, _, _, i, h1, h2 => by omega
  | j + 1, k, h, i, h1, h2 => by
    unfold dsU at h
    split at h
    · cases h
    · rename_i hb
      by_cases e : i = k
      · subst e; exact hb
      · exact dsU_none j (k + 1) h i (by omega) (by omega)
theorem ds_iff (G : GR g n) (hn : n ≤ 10) (hu : u < n) {r : Nat} : ds g n u v = some r ↔ ch g r u v ∧ ∀ k, k < r → ¬ ch g k u v := by
  have fwd : ∀ r, ds g n u v = some r → ch g r u v ∧ ∀ k, k < r → ¬ ch g k u v := fun r h => by
    obtain ⟨h1, h2⟩ := dsU_some n 0 r h
    obtain ⟨i, hi, hc⟩ := (bal_bit G hu r v).mp h1
    have hle : ∀ k, k < r → ¬ ch g k u v := fun k hk hc => h2 k (Nat.zero_le _) hk ((bal_bit G hu k v).mpr ⟨k, Nat.le_refl _, hc⟩)
    have : i = r := by
      rcases Nat.lt_or_ge i r with q | q
      · exact absurd hc (hle i q)
      · omega
    subst this
    exact ⟨hc, hle⟩
  refine ⟨fwd r, fun ⟨h1, h2⟩ => ?_⟩
  cases hd : ds g n u v with
  | some r' =>
    obtain ⟨h3, h4⟩ := fwd r' hd
    have : r' = r := by
      rcases Nat.lt_trichotomy r r' with q | q | q
      · exact absurd h1 (h4 r q)
      · exact q.symm
      · exact absurd h3 (h2 r' q)
    rw [this]
  | none =>
    exfalso
    have h0 := dsU_none n 0 hd (n - 1) (Nat.zero_le _) (by omega)
    apply h0
    have hb : (bal g n u (n - 1 + r)).testBit v = true := (bal_bit G hu _ v).mpr ⟨r, by omega, h1⟩
    rw [bal_stay G hn hu] at hb; exact hb
/-- the least number of steps -/
theorem ch_least {k : Nat} (h : ch g k u v) : ∃ r, r ≤ k ∧ ch g r u v ∧ ∀ i, i < r → ¬ ch g i u v := by
  induction k using Nat.strongRecOn with
  | ind k ih =>
    by_cases e : ∃ i, i < k ∧ ch g i u v
    · obtain ⟨i, hi, hc⟩ := e
      obtain ⟨r, h1, h2⟩ := ih i hi hc
      exact ⟨r, by omega, h2⟩
    · exact ⟨k, Nat.le_refl _, h, fun i hi hc => e ⟨i, hi, hc⟩⟩
theorem ds_le_ch (G : GR g n) (hn : n ≤ 10) (hu : u < n) {k : Nat} (h : ch g k u v) : ∃ r, r ≤ k ∧ ds g n u v = some r := by
  obtain ⟨r, h1, h2⟩ := ch_least h
  exact ⟨r, h1, (ds_iff G hn hu).mpr h2⟩
theorem ds_ch (G : GR g n) (hn : n ≤ 10) (hu : u < n) {r : Nat} (h : ds g n u v = some r) : ch g r u v := ((ds_iff G hn hu).mp h).1
theorem ds_cn (G : GR g n) (hn : n ≤ 10) (hu : u < n) : cn g TT u v ↔ ∃ r, ds g n u v = some r := by
  refine ⟨fun h => ?_, fun ⟨r, h⟩ => ch_cn r v (ds_ch G hn hu h)⟩
  obtain ⟨k, hk⟩ := cn_ch h
  obtain ⟨r, _, h⟩ := ds_le_ch G hn hu hk
  exact ⟨r, h⟩
theorem ds_sy (G : GR g n) (hn : n ≤ 10) (hu : u < n) (hv : v < n) : ds g n u v = ds g n v u := by
  have key : ∀ a b r, a < n → b < n → ds g n a b = some r → ds g n b a = some r := fun a b r ha hb h => by
    obtain ⟨h1, h2⟩ := (ds_iff G hn ha).mp h
    exact (ds_iff G hn hb).mpr ⟨ch_sy G.2.1 r a b h1, fun k hk hc => h2 k hk (ch_sy G.2.1 k b a hc)⟩
  cases h : ds g n u v with
  | some r => exact (key u v r hu hv h).symm
  | none =>
    cases h2 : ds g n v u with
    | some r => rw [key v u r hv hu h2] at h; cases h
    | none => rfl
theorem ds_slf (G : GR g n) (hn : n ≤ 10) (hu : u < n) : ds g n u u = some 0 := (ds_iff G hn hu).mpr ⟨rfl, fun k hk => absurd hk (Nat.not_lt_zero k)⟩
theorem ds_zero (G : GR g n) (hn : n ≤ 10) (hu : u < n) (h : ds g n u v = some 0) : u = v := ds_ch G hn hu h
/-- a shortest way can be cut -/
theorem ds_cut (G : GR g n) (hn : n ≤ 10) (hu : u < n) {r i : Nat} (h : ds g n u v = some r) (hi : i ≤ r) : ∃ x, ds g n u x = some i ∧ ds g n x v = some (r - i) := by
  obtain ⟨h1, h2⟩ := (ds_iff G hn hu).mp h
  rw [show r = i + (r - i) by omega] at h1
  obtain ⟨x, h3, h4⟩ := (ch_app (r - i) i u v).mp h1
  have hx := ch_lt G hu h3
  refine ⟨x, (ds_iff G hn hu).mpr ⟨h3, fun k hk hc => ?_⟩, (ds_iff G hn hx).mpr ⟨h4, fun k hk hc => ?_⟩⟩
  · exact h2 (k + (r - i)) (by omega) ((ch_app _ _ _ _).mpr ⟨x, hc, h4⟩)
  · exact h2 (i + k) (by omega) ((ch_app _ _ _ _).mpr ⟨x, h3, hc⟩)
theorem ds_tri (G : GR g n) (hn : n ≤ 10) (hu : u < n) {i j : Nat} (h1 : ds g n u x = some i) (h2 : ds g n x v = some j) : ∃ r, r ≤ i + j ∧ ds g n u v = some r := by
  have h3 := ds_ch G hn hu h1
  have hx := ch_lt G hu h3
  exact ds_le_ch G hn hu ((ch_app j i u v).mpr ⟨x, h3, ds_ch G hn hx h2⟩)
theorem ds_nb (G : GR g n) (hn : n ≤ 10) (hu : u < n) {i : Nat} (h1 : ds g n u x = some i) (e : (g x).testBit v = true) : ∃ r, r ≤ i + 1 ∧ i ≤ r + 1 ∧ ds g n u v = some r := by
  obtain ⟨r, h2, h3⟩ := ds_le_ch G hn hu (show ch g (i + 1) u v from ⟨x, ds_ch G hn hu h1, e⟩)
  obtain ⟨r', h4, h5⟩ := ds_le_ch G hn hu (show ch g (r + 1) u x from ⟨v, ds_ch G hn hu h3, G.sy e⟩)
  rw [h1] at h5; cases h5
  exact ⟨r, h2, h4, h3⟩
/-- a way meets m, or goes round it -/
theorem ch_split {m : Nat} (hum : u ≠ m) : ∀ k v, ch g k u v → cn g (fun y => y ≠ m) u v ∨ ∃ i, i ≤ k ∧ ch g i u m ∧ ch g (k - i) m v
  | 0, v, h => by rw [← show u = v from h]; exact Or.inl cn_rf
  | k + 1, v, ⟨y, h1, h2⟩ => by
    by_cases e : v = m
    · subst e
      exact Or.inr ⟨k + 1, Nat.le_refl _, ⟨y, h1, h2⟩, by rw [Nat.sub_self]; rfl⟩
    · rcases ch_split hum k y h1 with h | ⟨i, h3, h4, h5⟩
      · exact Or.inl (cn_st h h2 e)
      · exact Or.inr ⟨i, by omega, h4, by rw [show k + 1 - i = k - i + 1 by omega]; exact ⟨y, h5, h2⟩⟩
/-- eccentricities: the class and the reference -/
theorem ecU_spec : ∀ j k r, k ≤ r → r < k + j → wn g n (bal g n u r) = bal g n u r → ∃ q, k ≤ q ∧ q ≤ r ∧ ecU g n j k (bal g n u k) = q ∧ wn g n (bal g n u q) = bal g n u q ∧ ∀ i, k ≤ i → i < q → wn g n (bal g n u i) ≠ bal g n u i
  | 0, _, _, h1, h2, _ => by omega
  | j + 1, k, r, h1, h2, h3 => by
    unfold ecU
    by_cases e : wn g n (bal g n u k) = bal g n u k
    · rw [if_pos e]
      exact ⟨k, Nat.le_refl _, h1, rfl, e, fun i h4 h5 => by omega⟩
    · rw [if_neg e]
      have hk : k ≠ r := fun q => e (by rw [q]; exact h3)
      obtain ⟨q, a1, a2, a3, a4, a5⟩ := ecU_spec j (k + 1) r (by omega) (by omega) h3
      refine ⟨q, by omega, a2, a3, a4, fun i h4 h5 => ?_⟩
      by_cases e2 : i = k
      · rw [e2]; exact e
      · exact a5 i (by omega) h5
theorem mxU_ge {m : Nat} {e : Nat → Nat} {i : Nat} : ∀ k, i < k → m.testBit i = true → e i ≤ mxU m e k
  | 0, h, _ => by omega
  | k + 1, h, hb => by
    rw [mxU_s]
    by_cases q : i = k
    · subst q; rw [if_pos hb]; exact Nat.le_max_right _ _
    · have := mxU_ge k (show i < k by omega) hb (e := e)
      split
      · exact Nat.le_trans this (Nat.le_max_left _ _)
      · exact this
theorem mxU_leb {m B : Nat} {e : Nat → Nat} : ∀ k, (∀ i, i < k → m.testBit i = true → e i ≤ B) → mxU m e k ≤ B
  | 0, _ => Nat.zero_le _
  | k + 1, h => by
    rw [mxU_s]
    split
    · rename_i hb
      exact Nat.max_le.mpr ⟨mxU_leb k (fun i hi => h i (by omega)), h k (by omega) hb⟩
    · exact mxU_leb k (fun i hi => h i (by omega))
theorem mE_ec (G : GR g n) (hn : n ≤ 10) (hv : v < n) : mE g n v = ec g n v := by
  obtain ⟨q, -, a2, a3, a4, a5⟩ := ecU_spec (g := g) (n := n) (u := v) n 0 (n - 1) (Nat.zero_le _) (by omega) (bal_fix G hn hv)
  have e : ec g n v = q := a3
  rw [e]
  have hst : ∀ j, bal g n v (q + j) = bal g n v q := fun j => by
    induction j with
    | zero => rfl
    | succ j ih => show wn g n (bal g n v (q + j)) = _; rw [ih]; exact a4
  have hmem : ∀ x, (mc g n v).testBit x = true ↔ cn g TT v x := fun x => by rw [mc_comp G hn hv, comp_bit G hn hv]
  apply Nat.le_antisymm
  · refine mxU_leb n (fun i hi hb => ?_)
    obtain ⟨r, hr⟩ := (ds_cn G hn hv).mp ((hmem i).mp hb)
    rw [hr]
    show r ≤ q
    obtain ⟨h1, h2⟩ := (ds_iff G hn hv).mp hr
    have hb2 : (bal g n v (q + r)).testBit i = true := (bal_bit G hv _ i).mpr ⟨r, by omega, h1⟩
    rw [hst] at hb2
    obtain ⟨k, hk, hc⟩ := (bal_bit G hv q i).mp hb2
    rcases Nat.lt_or_ge q r with h | h
    · exact absurd hc (h2 k (by omega))
    · exact h
  · rcases Nat.eq_zero_or_pos q with h | h
    · rw [h]; exact Nat.zero_le _
    · have hne := a5 (q - 1) (Nat.zero_le _) (by omega)
      have : ∃ x, (bal g n v q).testBit x = true ∧ ¬ (bal g n v (q - 1)).testBit x = true := by
        apply Classical.byContradiction
        intro hc
        apply hne
        have e2 : wn g n (bal g n v (q - 1)) = bal g n v q := by
          show bal g n v (q - 1 + 1) = _
          rw [show q - 1 + 1 = q by omega]
        rw [e2]
        apply set_ext
        intro j
        refine bit_eq ⟨fun hj => ?_, fun hj => by rw [← e2]; exact wn_bit.mpr (Or.inl hj)⟩
        apply Classical.byContradiction
        intro hn2
        exact hc ⟨j, hj, hn2⟩
      obtain ⟨x, h1, h2⟩ := this
      obtain ⟨k, hk, hc⟩ := (bal_bit G hv q x).mp h1
      have hkq : k = q := by
        rcases Nat.lt_or_ge k q with h3 | h3
        · exact absurd ((bal_bit G hv (q - 1) x).mpr ⟨k, by omega, hc⟩) h2
        · omega
      subst hkq
      have hd : ds g n v x = some k := (ds_iff G hn hv).mpr ⟨hc, fun i hi hc2 => h2 ((bal_bit G hv (k - 1) x).mpr ⟨i, by omega, hc2⟩)⟩
      have := mxU_ge (m := mc g n v) (e := fun k => (ds g n v k).getD 0) (i := x) n (ch_lt G hv hc) ((hmem x).mpr (ch_cn k x hc))
      rw [hd] at this
      exact this
theorem GOK_of (G : GR g n) (hn : n ≤ 10) : GOK g n :=
  ⟨fun o v hv => mr_fix (G.k hn) hv, fun v k hv hk h => (ds_cn G hn hv).mp (by rw [← comp_bit G hn hv, ← mc_comp G hn hv]; exact h)⟩
end
