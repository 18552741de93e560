/-! trees below a root: sizes and parts -/
section
variable {g : Nat → Nat} {A B : Nat → Prop} {a b u v w x y n r p q k i j l : Nat} {pa : Option Nat}
/-- v's place below the root r -/
def RP (g : Nat → Nat) (n r v : Nat) (pa : Option Nat) (k : Nat) : Prop := ds g n r v = some k ∧ (pa = none → k = 0) ∧ ∀ p, pa = some p → ds g n r p = some (k - 1) ∧ 0 < k ∧ (g v).testBit p = true
theorem RP.child (F : FOR g n) (hn : n ≤ 10) (hr : r < n) (R : RP g n r v pa k) : chB g v pa u = true ↔ (g v).testBit u = true ∧ ds g n r u = some (k + 1) := by
  obtain ⟨r1, r2, r3⟩ := R
  rw [chB_of]
  constructor
  · rintro ⟨h1, h2⟩
    refine ⟨h1, ?_⟩
    rcases lev_or F hn hr r1 h1 with h | ⟨h3, h4⟩
    · exact h
    · exfalso
      cases hp : pa with
      | none => have := r2 hp; omega
      | some p =>
        obtain ⟨q1, q2, q3⟩ := r3 p hp
        have := par_one F hn hr r1 h1 q3 h4 q1 (by omega) (by omega)
        exact h2 (by rw [hp, this])
  · rintro ⟨h1, h2⟩
    refine ⟨h1, fun e => ?_⟩
    obtain ⟨q1, q2, q3⟩ := r3 u e
    rw [h2] at q1
    have := Option.some.inj q1
    omega
theorem RP.sub (F : FOR g n) (hn : n ≤ 10) (hr : r < n) (R : RP g n r v pa k) (hc : chB g v pa u = true) : RP g n r u (some v) (k + 1) := by
  obtain ⟨h1, h2⟩ := (R.child F hn hr).mp hc
  exact ⟨h2, fun e => (by cases e), fun p e => (by cases e; exact ⟨R.1, by omega, F.1.sy h1⟩)⟩
theorem RP.ft (F : FOR g n) (hn : n ≤ 10) (hr : r < n) : ∀ l v pa k, RP g n r v pa k → n ≤ k + l → FT g n l v pa
  | 0, v, pa, k, R, h => by
    have := ds_lt R.1
    omega
  | l + 1, v, pa, k, R, h => fun u _ hc => RP.ft F hn hr l u (some v) (k + 1) (R.sub F hn hr hc) (by omega)
theorem RP.root (G : GR g n) (hn : n ≤ 10) (hr : r < n) : RP g n r r none 0 := ⟨ds_slf G hn hr, fun _ => rfl, fun p e => (by cases e)⟩
theorem RP.ex (G : GR g n) (hn : n ≤ 10) (hr : r < n) (h : ds g n r v = some k) : ∃ pa, RP g n r v pa k := by
  cases k with
  | zero => exact ⟨none, h, fun _ => rfl, fun p e => (by cases e)⟩
  | succ k =>
    obtain ⟨p, h1, h2⟩ := ds_par G hn hr h
    exact ⟨some p, h, fun e => (by cases e), fun p' e => (by cases e; exact ⟨h1, by omega, h2⟩)⟩
theorem cn_o : cn g (fun y => (some v : Option Nat) ≠ some y) u x ↔ cn g (fun y => y ≠ v) u x :=
  ⟨fun h => cn_mono h (fun _ _ e _ => e) (fun y hy e => hy (by rw [e])), fun h => cn_mono h (fun _ _ e _ => e) (fun y hy e => hy (Option.some.inj e).symm)⟩
/-- what hangs at v: v, and what hangs at its children -/
theorem sub_iff (F : FOR g n) (hpa : ∀ p, pa = some p → (g v).testBit p = true) : cn g (fun y => pa ≠ some y) v x ↔ x = v ∨ ∃ u, chB g v pa u = true ∧ cn g (fun y => y ≠ v) u x := by
  constructor
  · intro h
    refine cn_ind (S := fun x => x = v ∨ ∃ u, chB g v pa u = true ∧ cn g (fun y => y ≠ v) u x) h (Or.inl rfl) (fun a b _ hs e hb => ?_)
    by_cases hbv : b = v
    · exact Or.inl hbv
    · rcases hs with h | ⟨u, h1, h2⟩
      · subst h
        exact Or.inr ⟨b, chB_of.mpr ⟨e, hb⟩, cn_rf⟩
      · exact Or.inr ⟨u, h1, cn_st h2 e hbv⟩
  · rintro (h | ⟨u, h1, h2⟩)
    · subst h; exact cn_rf
    · obtain ⟨h3, h4⟩ := chB_of.mp h1
      have key := cn_ind (S := fun y => cn g (fun y => pa ≠ some y) v y) h2 (cn_st cn_rf h3 h4) (fun a b hab hs e hb => cn_st hs e (fun e2 => ?_))
      · exact key
      · have := hpa b e2
        have := F.2 v u b h3 this (cn_st hab e hb)
        exact h4 (by rw [this]; exact e2)
theorem pc_dis {a b : Nat} (h : ∀ j, ¬ (a.testBit j = true ∧ b.testBit j = true)) : pc (a ||| b) = pc a + pc b := by
  rw [pc_cnU, pc_cnU, pc_cnU]
  refine cnU_split 10 (fun i _ => ⟨?_, h i⟩)
  rw [Nat.testBit_or, Bool.or_eq_true]
def unU (t : Nat → Nat) (ch : Nat → Bool) (v : Nat) : Nat → Nat
  | 0 => 2 ^ v
  | m + 1 => if ch m = true then unU t ch v m ||| t m else unU t ch v m
theorem unU_bit {t : Nat → Nat} {ch : Nat → Bool} : ∀ m, (unU t ch v m).testBit x = true ↔ x = v ∨ ∃ u, u < m ∧ ch u = true ∧ (t u).testBit x = true
  | 0 => by
    show (2 ^ v).testBit x = true ↔ _
    rw [pow_bit, decide_eq_true_eq]
    exact ⟨fun e => Or.inl e.symm, fun h => by
      rcases h with h | ⟨u, h, _⟩
      · exact h.symm
      · omega⟩
  | m + 1 => by
    unfold unU
    by_cases hc : ch m = true
    · rw [if_pos hc, Nat.testBit_or, Bool.or_eq_true, unU_bit m]
      constructor
      · rintro ((h | ⟨u, h1, h2⟩) | h)
        · exact Or.inl h
        · exact Or.inr ⟨u, by omega, h2⟩
        · exact Or.inr ⟨m, by omega, hc, h⟩
      · rintro (h | ⟨u, h1, h2, h3⟩)
        · exact Or.inl (Or.inl h)
        · by_cases e : u = m
          · subst e; exact Or.inr h3
          · exact Or.inl (Or.inr ⟨u, by omega, h2, h3⟩)
    · rw [if_neg hc, unU_bit m]
      constructor
      · rintro (h | ⟨u, h1, h2⟩)
        · exact Or.inl h
        · exact Or.inr ⟨u, by omega, h2⟩
      · rintro (h | ⟨u, h1, h2, h3⟩)
        · exact Or.inl h
        · by_cases e : u = m
          · subst e; exact absurd h2 hc
          · exact Or.inr ⟨u, by omega, h2, h3⟩
theorem unU_pc {t : Nat → Nat} {ch : Nat → Bool} (hv : v < 10) : ∀ m, (∀ u, u < m → ch u = true → ¬ (t u).testBit v = true) → (∀ u u' x, u < m → u' < m → ch u = true → ch u' = true → (t u).testBit x = true → (t u').testBit x = true → u = u') → pc (unU t ch v m) = zsU (fun u => pc (t u)) ch m + 1
  | 0, _, _ => by
    show pc (2 ^ v) = 0 + 1
    rw [pc_pow hv]
  | m + 1, h1, h2 => by
    have ih := unU_pc hv m (fun u hu => h1 u (by omega)) (fun u u' x hu hu' => h2 u u' x (by omega) (by omega))
    unfold unU zsU
    by_cases hc : ch m = true
    · rw [if_pos hc, if_pos hc, pc_dis, ih]
      · omega
      · rintro j ⟨a1, a2⟩
        rcases (unU_bit m).mp a1 with e | ⟨u, b1, b2, b3⟩
        · subst e; exact h1 m (by omega) hc a2
        · have := h2 u m j (by omega) (by omega) b2 hc b3 a2
          omega
    · rw [if_neg hc, if_neg hc, ih]
theorem mr_un (F : FOR g n) (hn : n ≤ 10) (hv : v < n) (hpa : ∀ p, pa = some p → (g v).testBit p = true) : mr g n pa v = unU (fun u => mr g n (some v) u) (chB g v pa) v n := by
  have G := F.1
  apply set_ext
  intro j
  refine bit_eq ?_
  rw [mr_bit G hn hv, sub_iff F hpa, unU_bit]
  constructor
  · rintro (h | ⟨u, h1, h2⟩)
    · exact Or.inl h
    · have hu := G.lt (chB_of.mp h1).1
      exact Or.inr ⟨u, hu, h1, (mr_bit G hn hu).mpr (cn_o.mpr h2)⟩
  · rintro (h | ⟨u, h1, h2, h3⟩)
    · exact Or.inl h
    · exact Or.inr ⟨u, h2, cn_o.mp ((mr_bit G hn h1).mp h3)⟩
theorem kid_one (F : FOR g n) (h1 : (g v).testBit u = true) (h2 : (g v).testBit w = true) (h3 : cn g (fun y => y ≠ v) u x) (h4 : cn g (fun y => y ≠ v) w x) : u = w :=
  F.2 v u w h1 h2 (cn_tr h3 (F.1.cns h4 (fun e => F.1.ne h2 e.symm)))
theorem zs_mr (F : FOR g n) (hn : n ≤ 10) : ∀ l v pa, v < n → (∀ p, pa = some p → (g v).testBit p = true) → FT g n l v pa → zs g n l v pa = pc (mr g n pa v)
  | 0, _, _, _, _, h => absurd h id
  | l + 1, v, pa, hv, hpa, hf => by
    have G := F.1
    rw [mr_un F hn hv hpa, unU_pc (by omega) n (fun u hu hc e => ?_) (fun u u' x hu hu' hc hc' e e' => ?_)]
    · show zsU (fun u => zs g n l u (some v)) (chB g v pa) n + 1 = _
      congr 1
      have key : ∀ m, m ≤ n → zsU (fun u => zs g n l u (some v)) (chB g v pa) m = zsU (fun u => pc (mr g n (some v) u)) (chB g v pa) m := by
        intro m
        induction m with
        | zero => intro _; rfl
        | succ m ih =>
          intro hm
          have ih := ih (by omega)
          unfold zsU
          by_cases hc : chB g v pa m = true
          · rw [if_pos hc, if_pos hc, ih, zs_mr F hn l m (some v) (by omega) (fun p e => by cases e; exact G.sy (chB_of.mp hc).1) (hf m (by omega) hc)]
          · rw [if_neg hc, if_neg hc, ih]
      exact key n (Nat.le_refl _)
    · have := cn_in (cn_o.mp ((mr_bit G hn hu).mp e)) (fun e2 => G.ne (chB_of.mp hc).1 e2.symm)
      exact this rfl
    · exact kid_one F (chB_of.mp hc).1 (chB_of.mp hc').1 (cn_o.mp ((mr_bit G hn hu).mp e)) (cn_o.mp ((mr_bit G hn hu').mp e'))
theorem WOK_of (F : FOR g n) (hn : n ≤ 10) : WOK g n := fun v hv => by
  have R := RP.root F.1 hn hv
  have hf := RP.ft F hn hv 10 v none 0 R (by omega)
  refine ⟨hf, ?_⟩
  rw [zs_mr F hn 10 v none hv (fun p e => by cases e) hf]
  exact pc_le _
/-- the two sides of an edge -/
theorem sides (F : FOR g n) (hn : n ≤ 10) (h : (g v).testBit p = true) : pc (mr g n (some p) v) + pc (mr g n (some v) p) = pc (comp g n v) := by
  have G := F.1
  have hv := G.lt' h
  have hp := G.lt h
  have hb : comp g n v = mr g n (some p) v ||| mr g n (some v) p := by
    apply set_ext
    intro j
    refine bit_eq ?_
    rw [comp_bit G hn hv, Nat.testBit_or, Bool.or_eq_true, mr_bit G hn hv, mr_bit G hn hp]
    constructor
    · intro hc
      have hc' : cn g (fun y => (none : Option Nat) ≠ some y) v j := cn_mono hc (fun _ _ e _ => e) (fun y _ e => by cases e)
      rcases (sub_iff F (fun p e => by cases e)).mp hc' with e | ⟨u, h1, h2⟩
      · subst e; exact Or.inl cn_rf
      · by_cases e : u = p
        · subst e; exact Or.inr (cn_o.mpr h2)
        · exact Or.inl ((sub_iff F (fun p' e' => by cases e'; exact h)).mpr (Or.inr ⟨u, chB_of.mpr ⟨(chB_of.mp h1).1, fun e' => e (Option.some.inj e').symm⟩, h2⟩))
    · rintro (hc | hc)
      · exact cn_TT hc
      · exact cn_tr (G.e1 h) (cn_TT hc)
  rw [hb, pc_dis]
  rintro j ⟨a1, a2⟩
  have a1 := cn_o.mp ((mr_bit G hn hv).mp a1)
  have a2 := (mr_bit G hn hp).mp a2
  rcases (sub_iff F (fun p' e' => by cases e'; exact G.sy h)).mp a2 with e | ⟨u, h1, h2⟩
  · subst e
    exact cn_in a1 (G.ne h) rfl
  · have := kid_one F (chB_of.mp h1).1 (G.sy h) h2 a1
    exact (chB_of.mp h1).2 (by rw [this])
/-- the greatest part, in numbers of vertices -/
def MP (g : Nat → Nat) (n v : Nat) : Nat := mxU (g v) (fun u => pc (mr g n (some v) u)) n
theorem smU_1 {s : Nat} : ∀ k, smU s (fun _ => 1) k = cnU (fun i => s.testBit i) k
  | 0 => rfl
  | k + 1 => by rw [smU_s, cnU_s, smU_1 k]
theorem mxU_ext {m : Nat} {e f : Nat → Nat} : ∀ k, (∀ i, i < k → m.testBit i = true → e i = f i) → mxU m e k = mxU m f k
  | 0, _ => rfl
  | k + 1, h => by
    rw [mxU_s, mxU_s, mxU_ext k (fun i hi => h i (by omega))]
    split
    · rename_i hb
      rw [h k (by omega) hb]
    · rfl
theorem mr_lt2 {o : Option Nat} (G : GR g n) (hn : n ≤ 10) (hv : v < n) : mr g n o v < 2 ^ n := lt_of_bits (fun j hj => G.into ((mr_bit G hn hv).mp hj) hv)
theorem mg_MP {w : Nat → Nat} (G : GR g n) (hn : n ≤ 10) : mg g w n v false = MP g n v := by
  unfold mg MP
  refine mxU_ext n (fun u hu _ => ?_)
  have e : w1 w false = fun _ => 1 := by funext i; unfold w1; rw [if_neg (by decide)]
  rw [e, smU_1, ← pc_cnUn (mr_lt2 G hn hu) hn]
/-- .. by the tree below a root -/
def mcU (rec : Nat → Nat) (ch : Nat → Bool) : Nat → Nat
  | 0 => 0
  | m + 1 => if ch m = true then max (mcU rec ch m) (rec m) else mcU rec ch m
theorem mcU_le {rec : Nat → Nat} {ch : Nat → Bool} {b : Nat} : ∀ m, (∀ u, u < m → ch u = true → rec u ≤ b) → mcU rec ch m ≤ b
  | 0, _ => Nat.zero_le _
  | m + 1, h => by
    unfold mcU
    split
    · rename_i hc
      exact Nat.max_le.mpr ⟨mcU_le m (fun u hu => h u (by omega)), h m (by omega) hc⟩
    · exact mcU_le m (fun u hu => h u (by omega))
theorem mcU_ge {rec : Nat → Nat} {ch : Nat → Bool} : ∀ m, u < m → ch u = true → rec u ≤ mcU rec ch m
  | 0, h, _ => by omega
  | m + 1, h, hc => by
    unfold mcU
    by_cases e : u = m
    · subst e; rw [if_pos hc]; exact Nat.le_max_right _ _
    · have := mcU_ge (rec := rec) m (show u < m by omega) hc
      split
      · exact Nat.le_trans this (Nat.le_max_left _ _)
      · exact this
theorem MP_root (F : FOR g n) (hn : n ≤ 10) (hv : v < n) (hpa : ∀ p, pa = some p → (g v).testBit p = true) : MP g n v = max (mcU (fun u => pc (mr g n (some v) u)) (chB g v pa) n) (pc (comp g n v) - pc (mr g n pa v)) := by
  have G := F.1
  apply Nat.le_antisymm
  · refine mxU_leb n (fun u hu hb => ?_)
    by_cases e : pa = some u
    · have h1 := sides F hn hb
      rw [e]
      exact Nat.le_trans (by omega) (Nat.le_max_right _ _)
    · exact Nat.le_trans (mcU_ge (rec := fun u => pc (mr g n (some v) u)) n hu (chB_of.mpr ⟨hb, e⟩)) (Nat.le_max_left _ _)
  · refine Nat.max_le.mpr ⟨mcU_le n (fun u hu hc => mxU_ge (e := fun u => pc (mr g n (some v) u)) n hu (chB_of.mp hc).1), ?_⟩
    cases hp : pa with
    | none =>
      have e : mr g n none v = comp g n v := mc_comp G hn hv
      rw [e, Nat.sub_self]; exact Nat.zero_le _
    | some p =>
      have hb := hpa p hp
      have h1 := sides F hn hb
      have h2 := mxU_ge (m := g v) (e := fun u => pc (mr g n (some v) u)) n (G.lt hb) hb
      have h2 : pc (mr g n (some v) p) ≤ MP g n v := h2
      omega
theorem mxU_at {m : Nat} {e : Nat → Nat} : ∀ k, 0 < mxU m e k → ∃ i, i < k ∧ m.testBit i = true ∧ e i = mxU m e k
  | 0, h => by exact absurd h (Nat.lt_irrefl 0)
  | k + 1, h => by
    rw [mxU_s] at h ⊢
    by_cases hb : m.testBit k = true
    · rw [if_pos hb] at h ⊢
      rcases Nat.le_total (mxU m e k) (e k) with q | q
      · exact ⟨k, by omega, hb, (Nat.max_eq_right q).symm⟩
      · rw [Nat.max_eq_left q] at h ⊢
        obtain ⟨i, h1, h2⟩ := mxU_at k h
        exact ⟨i, by omega, h2⟩
    · rw [if_neg hb] at h ⊢
      obtain ⟨i, h1, h2⟩ := mxU_at k h
      exact ⟨i, by omega, h2⟩
/-! centroids -/
theorem cen_le (F : FOR g n) (hn : n ≤ 10) (hv : v < n) (hc : cn g TT v u) (h : 2 * MP g n v ≤ pc (comp g n v)) : MP g n v ≤ MP g n u := by
  have G := F.1
  have hu := G.into hc hv
  by_cases huv : u = v
  · rw [huv]; exact Nat.le_refl _
  · have f : ∀ a b, cn g TT a b → cn g (fun y => (none : Option Nat) ≠ some y) a b := fun a b h => cn_mono h (fun _ _ e _ => e) (fun y _ e => by cases e)
    rcases (sub_iff F (fun p e => by cases e)).mp (f v u hc) with e | ⟨q', q1, q2⟩
    · exact absurd e huv
    · rcases (sub_iff F (fun p e => by cases e)).mp (f u v (G.cnT hc)) with e | ⟨q, q3, q4⟩
      · exact absurd e.symm huv
      · have b1 := (chB_of.mp q1).1
        have b2 := (chB_of.mp q3).1
        have cov : pc (comp g n v) ≤ pc (mr g n (some v) q') + pc (mr g n (some u) q) := by
          unfold pc
          refine cP_le (fun x _ hx => ?_)
          have hx := (comp_bit G hn hv).mp hx
          rw [mr_bit G hn (G.lt b1), mr_bit G hn (G.lt b2)]
          have toq : cn g (fun y => y ≠ u) v x → cn g (fun y => some u ≠ some y) q x := fun h => cn_o.mpr (cn_tr q4 h)
          rcases (sub_iff F (fun p e => by cases e)).mp (f v x hx) with e | ⟨t, t1, t2⟩
          · subst e; exact Or.inr (toq cn_rf)
          · have b3 := (chB_of.mp t1).1
            by_cases e : t = q'
            · subst e; exact Or.inl (cn_o.mpr t2)
            · refine Or.inr (toq ?_)
              have hut : ∀ z, cn g (fun y => y ≠ v) t z → z ≠ u := fun z hz e2 => by
                subst e2
                exact e (kid_one F b3 b1 hz q2)
              exact cn_ind (S := fun z => cn g (fun y => y ≠ u) v z) t2 (cn_st cn_rf b3 (hut t cn_rf)) (fun a b hab hs e hb => cn_st hs e (hut b (cn_st hab e hb)))
        have m1 : pc (mr g n (some v) q') ≤ MP g n v := mxU_ge (m := g v) (e := fun u => pc (mr g n (some v) u)) n (G.lt b1) b1
        have m2 : pc (mr g n (some u) q) ≤ MP g n u := mxU_ge (m := g u) (e := fun x => pc (mr g n (some u) x)) n (G.lt b2) b2
        omega
theorem cen_ex (F : FOR g n) (hn : n ≤ 10) (hv : v < n) : ∃ u, cn g TT v u ∧ 2 * MP g n u ≤ pc (comp g n v) := by
  have G := F.1
  obtain ⟨m, hm, ⟨u, hu, hum⟩, hmin⟩ := min_ex (P := fun m => ∃ u, cn g TT v u ∧ MP g n u = m) (a := MP g n v) ⟨v, cn_rf, rfl⟩
  have hun := G.into hu hv
  refine ⟨u, hu, ?_⟩
  apply Classical.byContradiction
  intro hbig
  have hT : comp g n u = comp g n v := (comp_eq G hn hv hu).symm
  obtain ⟨q, hq, hb, e⟩ := mxU_at (m := g u) (e := fun x => pc (mr g n (some u) x)) n (by show 0 < MP g n u; omega)
  have e : pc (mr g n (some u) q) = MP g n u := e
  have s1 := sides F hn (G.sy hb)
  have hTq : comp g n q = comp g n v := (comp_eq G hn hv (cn_tr hu (G.e1 hb))).symm
  rw [hTq] at s1
  have hlt : MP g n q < MP g n u := by
    have : MP g n q ≤ MP g n u - 1 := by
      refine mxU_leb n (fun t ht htb => ?_)
      by_cases e2 : t = u
      · subst e2
        omega
      · have hlt2 : pc (mr g n (some q) t) < pc (mr g n (some u) q) := by
          refine pc_lt' (fun j hj => ?_) (mr_lt (G.k hn) (by omega)) (fun e3 => ?_)
          · have hj := cn_o.mp ((mr_bit G hn ht).mp hj)
            exact (mr_bit G hn hq).mpr ((sub_iff F (fun p' e' => by cases e'; exact G.sy hb)).mpr (Or.inr ⟨t, chB_of.mpr ⟨htb, fun e' => e2 (Option.some.inj e').symm⟩, hj⟩))
          · have h1 : (mr g n (some u) q).testBit q = true := (mr_bit G hn hq).mpr cn_rf
            rw [← e3] at h1
            exact cn_in (cn_o.mp ((mr_bit G hn ht).mp h1)) (fun e4 => G.ne htb e4.symm) rfl
        show pc (mr g n (some q) t) ≤ MP g n u - 1
        omega
    omega
  exact hmin (MP g n q) (by omega) ⟨q, cn_tr hu (G.e1 hb), rfl⟩
/-- what is least over a set -/
theorem lbU_bit {m : Nat} {e : Nat → Nat} : ∀ k, ((lbU m e k).2 = 0 ∧ ∀ i, i < k → ¬ m.testBit i = true) ∨ ((∃ i, i < k ∧ m.testBit i = true ∧ e i = (lbU m e k).1) ∧ (∀ i, i < k → m.testBit i = true → (lbU m e k).1 ≤ e i) ∧ (∀ j, (lbU m e k).2.testBit j = true ↔ j < k ∧ m.testBit j = true ∧ e j = (lbU m e k).1))
  | 0 => Or.inl ⟨rfl, fun i hi => absurd hi (Nat.not_lt_zero i)⟩
  | k + 1 => by
    have ih := lbU_bit (m := m) (e := e) k
    rw [lbU_s]
    by_cases hb : m.testBit k = true
    · rw [if_pos hb]
      have nz : (∃ i, i < k ∧ m.testBit i = true ∧ e i = (lbU m e k).1) → (∀ j, (lbU m e k).2.testBit j = true ↔ j < k ∧ m.testBit j = true ∧ e j = (lbU m e k).1) → (lbU m e k).2 ≠ 0 := fun ⟨i, h⟩ h2 e0 => by
        have := (h2 i).mpr h
        rw [e0, Nat.zero_testBit] at this; cases this
      by_cases h1 : (lbU m e k).2 = 0 ∨ e k < (lbU m e k).1
      · rw [if_pos h1]
        refine Or.inr ⟨⟨k, by omega, hb, rfl⟩, fun i hi hbi => ?_, fun j => ?_⟩
        · show e k ≤ e i
          by_cases q : i = k
          · rw [q]; exact Nat.le_refl _
          · rcases ih with ⟨a1, a2⟩ | ⟨a1, a2, a3⟩
            · exact absurd hbi (a2 i (by omega))
            · have := a2 i (by omega) hbi
              rcases h1 with h1 | h1
              · exact absurd h1 (nz a1 a3)
              · omega
        · show (2 ^ k).testBit j = true ↔ _
          rw [pow_bit, decide_eq_true_eq]
          constructor
          · intro q; subst q; exact ⟨by omega, hb, rfl⟩
          · rintro ⟨c1, c2, c3⟩
            apply Classical.byContradiction
            intro hne
            rcases ih with ⟨a1, a2⟩ | ⟨a1, a2, a3⟩
            · exact a2 j (by omega) c2
            · have h2 := a2 j (by omega) c2
              have c3 : e j = e k := c3
              rcases h1 with h1 | h1
              · exact nz a1 a3 h1
              · omega
      · rw [if_neg h1]
        have h1a : (lbU m e k).2 ≠ 0 := fun q => h1 (Or.inl q)
        have h1b : (lbU m e k).1 ≤ e k := Nat.le_of_not_lt (fun q => h1 (Or.inr q))
        rcases ih with ⟨a1, a2⟩ | ⟨⟨i0, a0, a1⟩, a2, a3⟩
        · exact absurd a1 h1a
        · by_cases h2 : e k = (lbU m e k).1
          · rw [if_pos h2]
            refine Or.inr ⟨⟨i0, by omega, a1⟩, fun i hi hbi => ?_, fun j => ?_⟩
            · by_cases q : i = k
              · rw [q]; exact h1b
              · exact a2 i (by omega) hbi
            · show ((lbU m e k).2 ||| 2 ^ k).testBit j = true ↔ _
              rw [Nat.testBit_or, Bool.or_eq_true, a3 j, pow_bit, decide_eq_true_eq]
              constructor
              · rintro (⟨c1, c2⟩ | c1)
                · exact ⟨by omega, c2⟩
                · subst c1; exact ⟨by omega, hb, h2⟩
              · rintro ⟨c1, c2⟩
                by_cases q : j = k
                · exact Or.inr q.symm
                · exact Or.inl ⟨by omega, c2⟩
          · rw [if_neg h2]
            refine Or.inr ⟨⟨i0, by omega, a1⟩, fun i hi hbi => ?_, fun j => ?_⟩
            · by_cases q : i = k
              · rw [q]; exact h1b
              · exact a2 i (by omega) hbi
            · rw [a3 j]
              constructor
              · rintro ⟨c1, c2⟩
                exact ⟨by omega, c2⟩
              · rintro ⟨c1, c2, c3⟩
                refine ⟨?_, c2, c3⟩
                by_cases q : j = k
                · subst q; exact absurd c3 h2
                · omega
    · rw [if_neg hb]
      rcases ih with ⟨a1, a2⟩ | ⟨⟨i0, a0, a1⟩, a2, a3⟩
      · refine Or.inl ⟨a1, fun i hi => ?_⟩
        by_cases q : i = k
        · rw [q]; exact hb
        · exact a2 i (by omega)
      · refine Or.inr ⟨⟨i0, by omega, a1⟩, fun i hi hbi => ?_, fun j => ?_⟩
        · by_cases q : i = k
          · rw [q] at hbi; exact absurd hbi hb
          · exact a2 i (by omega) hbi
        · rw [a3 j]
          constructor
          · rintro ⟨c1, c2⟩
            exact ⟨by omega, c2⟩
          · rintro ⟨c1, c2, c3⟩
            refine ⟨?_, c2, c3⟩
            by_cases q : j = k
            · subst q; exact absurd c2 hb
            · omega
/-- the centroids of a component -/
theorem cen_iff {w : Nat → Nat} (F : FOR g n) (hn : n ≤ 10) (hv : v < n) : (lbU (comp g n v) (mm g w n 1) n).2.testBit u = true ↔ cn g TT v u ∧ 2 * MP g n u ≤ pc (comp g n v) := by
  have G := F.1
  have em : mm g w n 1 = MP g n := by
    funext x
    unfold mm
    rw [if_neg (by decide), show decide (1 = 2) = false by decide, mg_MP G hn]
  rw [em]
  obtain ⟨z, z1, z2⟩ := cen_ex F hn hv
  have hz := G.into z1 hv
  rcases lbU_bit (m := comp g n v) (e := MP g n) n with ⟨a1, a2⟩ | ⟨⟨i0, a0, a1, a4⟩, a2, a3⟩
  · exact absurd ((comp_bit G hn hv).mpr cn_rf) (a2 v hv)
  · rw [a3 u]
    have ei : comp g n i0 = comp g n v := (comp_eq G hn hv ((comp_bit G hn hv).mp a1)).symm
    constructor
    · rintro ⟨c1, c2, c3⟩
      refine ⟨(comp_bit G hn hv).mp c2, ?_⟩
      have := a2 z hz ((comp_bit G hn hv).mpr z1)
      omega
    · rintro ⟨c1, c2⟩
      have hu := G.into c1 hv
      refine ⟨hu, (comp_bit G hn hv).mpr c1, ?_⟩
      have h1 := a2 u hu ((comp_bit G hn hv).mpr c1)
      have h2 := cen_le F hn hu (u := i0) (cn_tr (G.cnT c1) ((comp_bit G hn hv).mp a1)) (by rw [← comp_eq G hn hv c1]; exact c2)
      omega
end
