section
variable {g : Nat → Nat} {n r v x u k q s S : Nat} {pa : Option Nat} {W : Nat → Nat → Int32} {w t : Nat → Nat}
theorem asW_at {f : Nat → Int32} : asW W v f 1 v = f 1 ∧ asW W v f 2 v = f 2 ∧ asW W v f 3 v = f 3 ∧ asW W v f 4 v = f 4 := by
  unfold asW
  refine ⟨?_, ?_, ?_, ?_⟩
  · rw [up1_ne _ _ (by decide), up1_ne _ _ (by decide), up1_ne _ _ (by decide), up1_same, up1_same]
  · rw [up1_ne _ _ (by decide), up1_ne _ _ (by decide), up1_same, up1_same]
  · rw [up1_ne _ _ (by decide), up1_same, up1_same]
  · rw [up1_same, up1_same]
theorem asW_ne {f : Nat → Int32} (h : u ≠ v) (i : Nat) : asW W v f i u = W i u := by
  unfold asW
  by_cases h4 : i = 4
  · subst h4; rw [up1_same, up1_ne _ _ h]
  · rw [up1_ne _ _ h4]
    by_cases h3 : i = 3
    · subst h3; rw [up1_same, up1_ne _ _ h]
    · rw [up1_ne _ _ h3]
      by_cases h2 : i = 2
      · subst h2; rw [up1_same, up1_ne _ _ h]
      · rw [up1_ne _ _ h2]
        by_cases h1 : i = 1
        · subst h1; rw [up1_same, up1_ne _ _ h]
        · rw [up1_ne _ _ h1]
theorem asU_all (hn : n ≤ 10) (hS : S < 2 ^ n) (C : CHR W w t S) (hZ : zsU (fun u => bc 20 (w u)) (bts S) n ≤ 9) : asU W 10 0 1 1 (-1) 0 0 S = asO (nI (catR (kdR w (bts S) n) * 2 ^ (19 - 2 * zsU (fun u => bc 20 (w u)) (bts S) n))) (nI (1 + 2 * zsU (fun u => bc 20 (w u)) (bts S) n)) (nI (tnU t (fun u => lkU w (bts S) (w u) u) (bts S) n)) (nI (2 * mcU (fun u => bc 20 (w u)) (bts S) n)) := by
  have h := asU_ok hn hS C 10 S 0 1 1 (-1) 0 0 (fun u hu => hu) (pc_le S) (Nat.le_refl _) (by omega) ⟨0, by rw [Nat.mul_zero], by decide⟩ (fun m hm => ?_) (fun d u h1 h2 => absurd h1 h2) (by decide)
  · rw [Nat.zero_add, Nat.one_mul, Nat.zero_max] at h
    exact h
  · have : lkU w (bts S) (w m) m = 1 := lkU_0 (fun u h1 h2 h3 => by
      have h2 : S.testBit u = true := h2
      have h4 : u < m → al20 (w m) < al20 (w u) := (hm.2 u h2).2
      have := h4 h1
      rw [h3] at this
      omega)
    rw [this]
    split <;> rfl
/-! a level -/
theorem wfV_s {lev below m : Nat} : wfV g W lev below (m + 1) = if lev.testBit m = true then asm (wfV g W lev below m) m (g m &&& below) else wfV g W lev below m := rfl
theorem wfV_out {lev below : Nat} (hv : ¬ lev.testBit v = true) (i : Nat) : ∀ m, wfV g W lev below m i v = W i v
  | 0 => rfl
  | m + 1 => by
    rw [wfV_s]
    by_cases hb : lev.testBit m = true
    · rw [if_pos hb]
      have : v ≠ m := fun e => hv (by rw [e]; exact hb)
      exact (asW_ne this i).trans (wfV_out hv i m)
    · rw [if_neg hb]; exact wfV_out hv i m
theorem wfV_in {lev below : Nat} (hv : lev.testBit v = true) (i : Nat) : ∀ m, v < m → wfV g W lev below m i v = asm (wfV g W lev below v) v (g v &&& below) i v
  | 0, h => absurd h (Nat.not_lt_zero v)
  | m + 1, h => by
    rw [wfV_s]
    by_cases e : v = m
    · subst e; rw [if_pos hv]
    · have ih := wfV_in (below := below) hv i m (by omega)
      by_cases hb : lev.testBit m = true
      · rw [if_pos hb]
        exact (asW_ne e i).trans ih
      · rw [if_neg hb]; exact ih
def lvS (g : Nat → Nat) (n r k : Nat) : Nat := stU (fun x => decide (ds g n r x = some k)) n
def lvD (g : Nat → Nat) (n r k : Nat) : Nat := stU (fun x => (match ds g n r x with
  | some i => decide (i < k)
  | none => false)) n
theorem lvS_bit (G : GR g n) (hn : n ≤ 10) (hr : r < n) : (lvS g n r k).testBit x = true ↔ ds g n r x = some k := by
  unfold lvS
  rw [stU_bit, Bool.and_eq_true, decide_eq_true_eq, decide_eq_true_eq]
  exact ⟨fun h => h.2, fun h => ⟨ch_lt G hr (ds_ch G hn hr h), h⟩⟩
theorem lvD_bit (G : GR g n) (hn : n ≤ 10) (hr : r < n) : (lvD g n r k).testBit x = true ↔ ∃ i, i < k ∧ ds g n r x = some i := by
  unfold lvD
  rw [stU_bit, Bool.and_eq_true, decide_eq_true_eq]
  constructor
  · rintro ⟨h1, h2⟩
    cases hd : ds g n r x with
    | none => rw [hd] at h2; cases h2
    | some i => rw [hd] at h2; exact ⟨i, of_decide_eq_true h2, rfl⟩
  · rintro ⟨i, h1, h2⟩
    refine ⟨ch_lt G hr (ds_ch G hn hr h2), ?_⟩
    rw [h2]; exact decide_eq_true h1
theorem lvD_next (G : GR g n) (hn : n ≤ 10) (hr : r < n) : lvD g n r k ||| lvS g n r k = lvD g n r (k + 1) := by
  apply set_ext
  intro j
  refine bit_eq ?_
  rw [Nat.testBit_or, Bool.or_eq_true, lvD_bit G hn hr, lvD_bit G hn hr, lvS_bit G hn hr]
  constructor
  · rintro (⟨i, h1, h2⟩ | h)
    · exact ⟨i, by omega, h2⟩
    · exact ⟨k, by omega, h⟩
  · rintro ⟨i, h1, h2⟩
    by_cases e : i = k
    · subst e; exact Or.inr h2
    · exact Or.inl ⟨i, by omega, h2⟩
theorem lvS_next (G : GR g n) (hn : n ≤ 10) (hr : r < n) : df (wn g n (lvS g n r k)) (lvD g n r (k + 1)) = lvS g n r (k + 1) := by
  apply set_ext
  intro j
  refine bit_eq ?_
  rw [df_bit, Bool.and_eq_true, Bool.not_eq_true', ← Bool.not_eq_true, wn_bit, lvD_bit G hn hr, lvS_bit G hn hr, lvS_bit G hn hr]
  constructor
  · rintro ⟨h | ⟨i, hi, h1, h2⟩, h3⟩
    · exact absurd ⟨k, by omega, h⟩ h3
    · obtain ⟨d, d1, d2, d3⟩ := ds_nb G hn hr ((lvS_bit G hn hr).mp h1) h2
      have : ¬ d < k + 1 := fun q => h3 ⟨d, q, d3⟩
      rw [d3]; congr 1; omega
  · intro h
    refine ⟨?_, fun ⟨i, h1, h2⟩ => ?_⟩
    · obtain ⟨p, p1, p2⟩ := ds_par G hn hr h
      exact Or.inr ⟨p, G.lt p2, (lvS_bit G hn hr).mpr p1, G.sy p2⟩
    · rw [h] at h2
      have := Option.some.inj h2
      omega
theorem lvS_0 (G : GR g n) (hn : n ≤ 10) (hr : r < n) : lvS g n r 0 = 2 ^ r := pow_of (fun j => by
  rw [lvS_bit G hn hr]
  exact ⟨fun h => (ds_zero G hn hr h).symm, fun e => by rw [e]; exact ds_slf G hn hr⟩)
theorem lvD_0 : lvD g n r 0 = 0 := by
  apply set_ext
  intro j
  unfold lvD
  rw [stU_bit, Nat.zero_testBit]
  cases ds g n r j with
  | none => simp
  | some i => simp
theorem ll_ok (G : GR g n) (hn : n ≤ 10) (hr : r < n) : ∀ j k V, k + j = 10 → k ≤ llC g n j (lvD g n r k) (lvS g n r k) k ∧ llC g n j (lvD g n r k) (lvS g n r k) k ≤ 10 ∧ lvS g n r (llC g n j (lvD g n r k) (lvS g n r k) k) = 0 ∧ (∀ i, k ≤ i → i < llC g n j (lvD g n r k) (lvS g n r k) k → llV g n j V (lvD g n r k) (lvS g n r k) k i = lvS g n r i) ∧ ∀ i, i < k → llV g n j V (lvD g n r k) (lvS g n r k) k i = V i := by
  intro j
  induction j with
  | zero =>
    intro k V hk
    have : k = 10 := by omega
    subst this
    refine ⟨Nat.le_refl _, Nat.le_refl _, ?_, fun i h1 h2 => ?_, fun _ _ => rfl⟩
    · show lvS g n r 10 = 0
      apply set_ext
      intro j
      rw [Nat.zero_testBit]
      cases hb : (lvS g n r 10).testBit j
      · rfl
      · have := ds_lt ((lvS_bit G hn hr).mp hb)
        omega
    · have h2 : i < 10 := h2
      omega
  | succ j ih =>
    intro k V hk
    have eC : llC g n (j + 1) (lvD g n r k) (lvS g n r k) k = if lvS g n r k = 0 then k else llC g n j (lvD g n r k ||| lvS g n r k) (df (wn g n (lvS g n r k)) (lvD g n r k ||| lvS g n r k)) (k + 1) := rfl
    have eV : llV g n (j + 1) V (lvD g n r k) (lvS g n r k) k = if lvS g n r k = 0 then V else llV g n j (up1 V k (lvS g n r k)) (lvD g n r k ||| lvS g n r k) (df (wn g n (lvS g n r k)) (lvD g n r k ||| lvS g n r k)) (k + 1) := rfl
    rw [lvD_next G hn hr, lvS_next G hn hr] at eC eV
    by_cases h0 : lvS g n r k = 0
    · rw [if_pos h0] at eC eV
      rw [eC, eV]
      exact ⟨Nat.le_refl _, by omega, h0, fun i h1 h2 => by omega, fun _ _ => rfl⟩
    · rw [if_neg h0] at eC eV
      rw [eC, eV]
      obtain ⟨i1, i2, i3, i4, i5⟩ := ih (k + 1) (up1 V k (lvS g n r k)) (by omega)
      refine ⟨by omega, i2, i3, fun i h1 h2 => ?_, fun i hi => ?_⟩
      · by_cases e : i = k
        · subst e
          rw [i5 i (by omega), up1_same]
        · exact i4 i (by omega) h2
      · rw [i5 i (by omega), up1_ne _ _ (by omega)]
/-! what is so of a vertex at its depth -/
theorem Wd_all (F : FOR g n) (hn : n ≤ 10) (hr : r < n) (R : RP g n r x pa q) : FT g n (10 - q) x pa ∧ zs g n (10 - q) x pa ≤ 10 ∧ WK (Wd g n (10 - q) x pa) ∧ bc 20 (Wd g n (10 - q) x pa) = zs g n (10 - q) x pa ∧ Wd g n (10 - q) x pa % 2 = 1 ∧ zs g n (10 - q) x pa = pc (mr g n pa x) := by
  have G := F.1
  have hq := ds_lt R.1
  have hx := ch_lt G hr (ds_ch G hn hr R.1)
  have hf := RP.ft F hn hr (10 - q) x pa q R (by omega)
  have hz := zs_mr F hn (10 - q) x pa hx (fun p e => (R.2.2 p e).2.2) hf
  have hz10 : zs g n (10 - q) x pa ≤ 10 := by rw [hz]; exact pc_le _
  obtain ⟨w1, w2⟩ := Wd_ok (10 - q) x pa hf hz10
  refine ⟨hf, hz10, w1, w2, ?_, hz⟩
  obtain ⟨l, hl⟩ : ∃ l, 10 - q = l + 1 := ⟨9 - q, by omega⟩
  rw [hl]
  show (catR _ * 2 + 1) % 2 = 1
  omega
/-- its rows -/
def GD (g : Nat → Nat) (n : Nat) (W : Nat → Nat → Int32) (x : Nat) (pa : Option Nat) (L : Nat) : Prop :=
  W 1 x = nI (al20 (Wd g n L x pa)) ∧ W 2 x = nI (2 * bc 20 (Wd g n L x pa)) ∧ W 3 x = nI (2 * mcU (fun u => bc 20 (Wd g n (L - 1) u (some x))) (chB g x pa) n) ∧ W 4 x = nI (Tn g n L x pa)
theorem zsU_ext {f h : Nat → Nat} {ch : Nat → Bool} : ∀ m, (∀ u, u < m → ch u = true → f u = h u) → zsU f ch m = zsU h ch m
  | 0, _ => rfl
  | m + 1, e => by
    show (if ch m = true then zsU f ch m + f m else zsU f ch m) = (if ch m = true then zsU h ch m + h m else zsU h ch m)
    rw [zsU_ext m (fun u hu => e u (by omega))]
    split
    · rename_i hc
      rw [e m (by omega) hc]
    · rfl
theorem GD_step (F : FOR g n) (hn : n ≤ 10) (hr : r < n) (hW : ∀ x pa q, RP g n r x pa q → k + 1 ≤ q → GD g n W x pa (10 - q)) : ∀ x pa q, RP g n r x pa q → k ≤ q → GD g n (wfV g W (lvS g n r k) (lvS g n r (k + 1)) n) x pa (10 - q) := by
  have G := F.1
  intro x pa q R hkq
  have hx := ch_lt G hr (ds_ch G hn hr R.1)
  by_cases e : q = k
  · subst e
    have hq := ds_lt R.1
    obtain ⟨l, hl⟩ : ∃ l, 10 - q = l + 1 := ⟨9 - q, by omega⟩
    have hl2 : 10 - (q + 1) = l := by omega
    have hxk : (lvS g n r q).testBit x = true := (lvS_bit G hn hr).mpr R.1
    obtain ⟨hf, hz10, wk, wz, wo, zm⟩ := Wd_all F hn hr R
    rw [hl] at hf hz10 wk wz wo zm
    have hch : bts (g x &&& lvS g n r (q + 1)) = chB g x pa := by
      funext u
      refine Bool.eq_iff_iff.mpr ?_
      rw [R.child F hn hr]
      unfold bts
      rw [Nat.testBit_and, Bool.and_eq_true, lvS_bit G hn hr]
    have hS : g x &&& lvS g n r (q + 1) < 2 ^ n := Nat.lt_of_le_of_lt Nat.and_le_left (G.1 x)
    obtain ⟨W', hW'⟩ : ∃ W', W' = wfV g W (lvS g n r q) (lvS g n r (q + 1)) x := ⟨_, rfl⟩
    have hkid : ∀ u, chB g x pa u = true → RP g n r u (some x) (q + 1) := fun u hu => R.sub F hn hr hu
    have C : CHR W' (fun u => Wd g n l u (some x)) (fun u => Tn g n l u (some x)) (g x &&& lvS g n r (q + 1)) := by
      intro u hu
      have hc : chB g x pa u = true := by rw [← hch]; exact hu
      have Ru := hkid u hc
      obtain ⟨-, -, k3, k4, k5, -⟩ := Wd_all F hn hr Ru
      obtain ⟨g1, g2, -, g4⟩ := hW u (some x) (q + 1) Ru (Nat.le_refl _)
      rw [hl2] at k3 k4 k5 g1 g2 g4
      have hout : ∀ i, W' i u = W i u := fun i => by
        rw [hW']
        refine wfV_out (fun hb => ?_) i x
        have h1 := (lvS_bit G hn hr).mp hb
        rw [Ru.1] at h1
        have := Option.some.inj h1
        omega
      exact ⟨by rw [hout]; exact g1, by rw [hout]; exact g2, by rw [hout]; exact g4, k3, k5⟩
    have hZ : zsU (fun u => bc 20 (Wd g n l u (some x))) (chB g x pa) n + 1 = bc 20 (Wd g n (l + 1) x pa) := by
      rw [wz]
      show _ = zsU (fun u => zs g n l u (some x)) (chB g x pa) n + 1
      refine congrArg (fun y => y + 1) (zsU_ext n (fun u _ hc => ?_))
      have := (Wd_all F hn hr (hkid u hc)).2.2.2.1
      rw [hl2] at this
      exact this
    have hzb : bc 20 (Wd g n (l + 1) x pa) ≤ 10 := by rw [wz]; exact hz10
    have hU := asU_all hn hS C (by rw [hch]; omega)
    rw [hch] at hU
    obtain ⟨Z, hZd⟩ : ∃ Z, Z = zsU (fun u => bc 20 (Wd g n l u (some x))) (chB g x pa) n := ⟨_, rfl⟩
    rw [← hZd] at hU hZ
    have row : ∀ i, wfV g W (lvS g n r q) (lvS g n r (q + 1)) n i x = asW W' x (asU W' 10 0 1 1 (-1) 0 0 (g x &&& lvS g n r (q + 1))) i x := fun i => by
      rw [wfV_in hxk i n hx, ← hW']; rfl
    obtain ⟨r1, r2, r3, r4⟩ := asW_at (W := W') (v := x) (f := asU W' 10 0 1 1 (-1) 0 0 (g x &&& lvS g n r (q + 1)))
    have eWd : Wd g n (l + 1) x pa = catR (kdR (fun u => Wd g n l u (some x)) (chB g x pa) n) * 2 + 1 := rfl
    unfold GD
    rw [row 1, row 2, row 3, row 4, r1, r2, r3, r4, hU, hl, Nat.add_sub_cancel]
    refine ⟨?_, ?_, rfl, rfl⟩
    · show nI _ ||| (1 <<< ((19 - nI (1 + 2 * Z)) &&& 31)) = _
      rw [show (19 : Int32) - nI (1 + 2 * Z) = nI (19 - (1 + 2 * Z)) from pk_sub (a := 19) (b := 1 + 2 * Z) (by omega), i_shl1 (by omega), i_or]
      refine congrArg nI ?_
      unfold al20
      rw [← hZ, eWd]
      have e1 : 2 ^ (19 - 2 * Z) = 2 ^ (18 - 2 * Z) * 2 := by
        rw [← Nat.pow_succ, show (18 - 2 * Z).succ = 19 - 2 * Z by omega]
      rw [Nat.mul_comm (catR _) (2 ^ (19 - 2 * Z)), show 19 - (1 + 2 * Z) = 18 - 2 * Z by omega, ← Nat.two_pow_add_eq_or_of_lt (by rw [e1]; have := Nat.two_pow_pos (18 - 2 * Z); omega), show 20 - 2 * (Z + 1) = 18 - 2 * Z by omega, e1, Nat.add_mul, Nat.one_mul, Nat.mul_assoc, Nat.mul_comm (2 ^ (18 - 2 * Z)) _, Nat.mul_comm 2]
    · show nI (1 + 2 * Z) + 1 = _
      rw [nI_1, ← hZ, show 1 + 2 * Z + 1 = 2 * (Z + 1) by omega]
  · have hout : ∀ i, wfV g W (lvS g n r k) (lvS g n r (k + 1)) n i x = W i x := fun i => wfV_out (fun hb => by
      have h1 := (lvS_bit G hn hr).mp hb
      rw [R.1] at h1
      exact e (Option.some.inj h1)) i n
    obtain ⟨g1, g2, g3, g4⟩ := hW x pa q R (by omega)
    exact ⟨by rw [hout]; exact g1, by rw [hout]; exact g2, by rw [hout]; exact g3, by rw [hout]; exact g4⟩
theorem wfU_ok (F : FOR g n) (hn : n ≤ 10) (hr : r < n) {V : Nat → Nat} {C : Nat} (hV : ∀ i, i < C → V i = lvS g n r i) : ∀ k W, k ≤ C → (∀ x pa q, RP g n r x pa q → k ≤ q → GD g n W x pa (10 - q)) → ∀ x pa q, RP g n r x pa q → GD g n (wfU g n V k W (lvS g n r k)) x pa (10 - q)
  | 0, W, _, h => fun x pa q R => h x pa q R (Nat.zero_le _)
  | k + 1, W, hk, h => by
    have e : wfU g n V (k + 1) W (lvS g n r (k + 1)) = wfU g n V k (wfV g W (V k) (lvS g n r (k + 1)) n) (V k) := rfl
    rw [e, hV k (by omega)]
    exact wfU_ok F hn hr hV k _ (by omega) (GD_step F hn hr h)
/-- behind wordFrom all rows of the component are right -/
theorem wf_good (F : FOR g n) (hn : n ≤ 10) (hr : r < n) (T : vw_s) : ∀ x pa q, RP g n r x pa q → GD g n (wfS g n T r).2 x pa (10 - q) := by
  have G := F.1
  obtain ⟨i1, i2, i3, i4, -⟩ := ll_ok G hn hr 10 0 T.1 rfl
  rw [lvD_0, lvS_0 G hn hr] at i1 i2 i3 i4
  have key := wfU_ok F hn hr (V := wfL g n T.1 r) (C := llC g n 10 0 (2 ^ r) 0) (fun i hi => i4 i (Nat.zero_le _) hi) (llC g n 10 0 (2 ^ r) 0) (up1 T.2 0 (fun i => nI (wfL g n T.1 r i))) (Nat.le_refl _) (fun x pa q R hq => by
    exfalso
    obtain ⟨y, y1, -⟩ := ds_cut G hn hr R.1 hq
    have := (lvS_bit G hn hr).mpr y1
    rw [i3, Nat.zero_testBit] at this
    cases this)
  rw [i3] at key
  exact key
theorem wfX_ok (F : FOR g n) (hn : n ≤ 10) (hr : r < n) (T : vw_s) : wfX g n T r = nI (al20 (Rw g n r)) := (wf_good F hn hr T r none 0 (RP.root F.1 hn hr)).1
theorem wf4_ok (F : FOR g n) (hn : n ≤ 10) (hr : r < n) (T : vw_s) : (wfS g n T r).2 4 r = nI (Tn g n 10 r none) := (wf_good F hn hr T r none 0 (RP.root F.1 hn hr)).2.2.2
theorem Rw_all (F : FOR g n) (hn : n ≤ 10) (hr : r < n) : WK (Rw g n r) ∧ Rw g n r % 2 = 1 ∧ bc 20 (Rw g n r) = pc (comp g n r) := by
  obtain ⟨-, -, h1, h2, h3, h4⟩ := Wd_all F hn hr (RP.root F.1 hn hr)
  refine ⟨h1, h3, h2.trans (h4.trans ?_)⟩
  rw [show mr g n none r = comp g n r from mc_comp F.1 hn hr]
end
