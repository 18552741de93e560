section
variable {n s S : Nat} {W : Nat → Nat → Int32} {w t : Nat → Nat}
/-- the children's rows -/
def CHR (W : Nat → Nat → Int32) (w t : Nat → Nat) (S : Nat) : Prop := ∀ u, S.testBit u = true → W 1 u = nI (al20 (w u)) ∧ W 2 u = nI (2 * bc 20 (w u)) ∧ W 4 u = nI (t u) ∧ WK (w u) ∧ w u % 2 = 1
/-- the counter of like ones is right for the next one -/
def AI (w : Nat → Nat) (S s : Nat) (fo al : Int32) : Prop := ∀ m, fst' (fun u => al20 (w u)) s m → (if nI (al20 (w m)) = fo then al + 1 else 1) = nI (lkU w (bts S) (w m) m)
/-- what went came before what is left -/
def OI (w : Nat → Nat) (S s : Nat) : Prop := ∀ d u, S.testBit d = true → ¬ s.testBit d = true → s.testBit u = true → al20 (w d) ≤ al20 (w u) ∧ (u < d → al20 (w d) < al20 (w u))
theorem none_kd {rec : Nat → Nat} {ch : Nat → Bool} : ∀ k, (∀ u, u < k → ch u = false) → kdR rec ch k = [] ∧ zsU rec ch k = 0 ∧ mcU rec ch k = 0 ∧ ∀ lk, tnU rec lk ch k = 1
  | 0, _ => ⟨rfl, rfl, rfl, fun _ => rfl⟩
  | k + 1, h => by
    obtain ⟨h1, h2, h3, h4⟩ := none_kd (rec := rec) k (fun u hu => h u (by omega))
    have hk : ¬ ch k = true := by rw [h k (by omega)]; decide
    refine ⟨?_, ?_, ?_, fun lk => ?_⟩
    · rw [kdR_s, if_neg hk, h1]
    · show (if ch k = true then _ else _) = 0
      rw [if_neg hk, h2]
    · show (if ch k = true then _ else _) = 0
      rw [if_neg hk, h3]
    · show (if ch k = true then _ else _) = 1
      rw [if_neg hk, h4 lk]
theorem bts0 (k : Nat) : ∀ u, u < k → bts 0 u = false := fun u _ => Nat.zero_testBit u
theorem AI_next {m : Nat} {fo al : Int32} (C : CHR W w t S) (hsS : ∀ u, s.testBit u = true → S.testBit u = true) (hm : fst' (fun u => al20 (w u)) s m) (o : OI w S s) (A : AI w S s fo al) : AI w S (df s (2 ^ m)) (nI (al20 (w m))) (nI (lkU w (bts S) (w m) m)) := by
  have hd : ∀ u, (df s (2 ^ m)).testBit u = true ↔ s.testBit u = true ∧ u ≠ m := fun u => by
    have := df_bts (s := s) (m := m) u
    unfold bts at this
    rw [this, Bool.and_eq_true, decide_eq_true_eq]
  intro m' hm'
  obtain ⟨h1, h2⟩ := (hd m').mp hm'.1
  have hS := hsS m hm.1
  have hS' := hsS m' h1
  obtain ⟨-, -, -, wk, od⟩ := C m hS
  obtain ⟨-, -, -, wk', od'⟩ := C m' hS'
  have l1 := al_lt2 wk
  have l2 := al_lt2 wk'
  have mm := hm.2 m' h1
  have mm1 : al20 (w m) ≤ al20 (w m') := mm.1
  have mm2 : m' < m → al20 (w m) < al20 (w m') := mm.2
  by_cases e : al20 (w m') = al20 (w m)
  · have ew : w m' = w m := al_inj wk' wk od' od e
    have hlt : m < m' := by
      rcases Nat.lt_trichotomy m m' with q | q | q
      · exact q
      · exact absurd q.symm h2
      · have := mm2 q; omega
    rw [if_pos (by rw [e])]
    have : lkU w (bts S) (w m') m' = lkU w (bts S) (w m) m + 1 := by
      rw [ew]
      refine lkU_1 hlt hS rfl (fun u u1 u2 u3 u4 => ?_)
      have u3 : S.testBit u = true := u3
      by_cases hu : s.testBit u = true
      · have q1 : u < m' → al20 (w m') < al20 (w u) := (hm'.2 u ((hd u).mpr ⟨hu, by omega⟩)).2
        have := q1 u2
        rw [u4] at this
        omega
      · have := (o u m u3 hu hm.1).2 u1
        rw [u4] at this
        omega
    rw [this]
    exact nI_1 _
  · rw [if_neg (fun q => e ((i_eq (by omega) (by omega)).mp q))]
    have : lkU w (bts S) (w m') m' = 1 := by
      refine lkU_0 (fun u u1 u2 u3 => ?_)
      have u2 : S.testBit u = true := u2
      by_cases hu : s.testBit u = true
      · by_cases hum : u = m
        · subst hum
          exact e (by rw [u3])
        · have q1 : u < m' → al20 (w m') < al20 (w u) := (hm'.2 u ((hd u).mpr ⟨hu, hum⟩)).2
          have := q1 u1
          rw [u3] at this
          omega
      · have := (o u m u2 hu hm.1).1
        rw [u3] at this
        omega
    rw [this]; rfl
theorem OI_next {m : Nat} (hm : fst' (fun u => al20 (w u)) s m) (o : OI w S s) : OI w S (df s (2 ^ m)) := by
  have hd : ∀ u, (df s (2 ^ m)).testBit u = true ↔ s.testBit u = true ∧ u ≠ m := fun u => by
    have := df_bts (s := s) (m := m) u
    unfold bts at this
    rw [this, Bool.and_eq_true, decide_eq_true_eq]
  intro d u h1 h2 h3
  obtain ⟨h4, h5⟩ := (hd u).mp h3
  by_cases hds : s.testBit d = true
  · have : d = m := by
      apply Classical.byContradiction
      intro hne
      exact h2 ((hd d).mpr ⟨hds, hne⟩)
    subst this
    exact hm.2 u h4
  · exact o d u h1 hds h4
theorem asU_ok (hn : n ≤ 10) (hS : S < 2 ^ n) (C : CHR W w t S) : ∀ j s wo le y fo al L, (∀ u, s.testBit u = true → S.testBit u = true) → pc s ≤ j → 1 ≤ le → le + 2 * zsU (fun u => bc 20 (w u)) (bts s) n ≤ 19 → (∃ q, wo = 2 ^ (20 - le) * q ∧ q < 2 ^ le) → AI w S s fo al → OI w S s → L ≤ 10 →
    asU W j (nI wo) (nI le) (nI y) fo al (nI (2 * L)) s = asO (nI (wo + catR (kdR w (bts s) n) * 2 ^ (20 - le - 2 * zsU (fun u => bc 20 (w u)) (bts s) n))) (nI (le + 2 * zsU (fun u => bc 20 (w u)) (bts s) n)) (nI (y * tnU t (fun u => lkU w (bts S) (w u) u) (bts s) n)) (nI (2 * max L (mcU (fun u => bc 20 (w u)) (bts s) n))) := by
  have zero : ∀ wo le y L, asO (nI wo) (nI le) (nI y) (nI (2 * L)) = asO (nI (wo + catR (kdR w (bts 0) n) * 2 ^ (20 - le - 2 * zsU (fun u => bc 20 (w u)) (bts 0) n))) (nI (le + 2 * zsU (fun u => bc 20 (w u)) (bts 0) n)) (nI (y * tnU t (fun u => lkU w (bts S) (w u) u) (bts 0) n)) (nI (2 * max L (mcU (fun u => bc 20 (w u)) (bts 0) n))) := by
    intro wo le y L
    obtain ⟨k1, -, -, -⟩ := none_kd (rec := w) n (bts0 n)
    obtain ⟨-, k2, k3, -⟩ := none_kd (rec := fun u => bc 20 (w u)) n (bts0 n)
    obtain ⟨-, -, -, k4⟩ := none_kd (rec := t) n (bts0 n)
    rw [k1, k2, k3, k4, show catR ([] : List Nat) = 0 from rfl, Nat.zero_mul, Nat.mul_zero, Nat.add_zero, Nat.add_zero, Nat.mul_one, Nat.max_zero]
  intro j
  induction j with
  | zero =>
    intro s wo le y fo al L hsS hpc _ _ _ _ _ _
    have hs : s < 2 ^ n := lt_of_bits (fun i hi => bit_lt hS (hsS i hi))
    have : s = 0 := pc_zero (Nat.lt_of_lt_of_le hs (pow_le10 hn)) (by omega)
    subst this
    exact zero wo le y L
  | succ j ih =>
    intro s wo le y fo al L hsS hpc hle hZ hwo hA hO hL
    have hs : s < 2 ^ n := lt_of_bits (fun i hi => bit_lt hS (hsS i hi))
    have hs10 : s < 1024 := Nat.lt_of_lt_of_le hs (pow_le10 hn)
    by_cases h0 : s = 0
    · subst h0
      unfold asU
      rw [if_pos rfl]
      exact zero wo le y L
    · obtain ⟨m, hmdef⟩ : ∃ m, m = lw (W 1) s := ⟨_, rfl⟩
      have hm : fst' (fun u => al20 (w u)) s m := by
        rw [hmdef]
        exact lw_ok hs10 h0 (fun u _ hu => ⟨(C u (hsS u hu)).1, Nat.lt_trans (al_lt2 (C u (hsS u hu)).2.2.2.1) (by decide)⟩)
      have hmn : m < n := bit_lt hs hm.1
      have hbm : bts s m = true := hm.1
      obtain ⟨c1, c2, c4, wk, od⟩ := C m (hsS m hm.1)
      have eZ := zsU_rm (z := fun u => bc 20 (w u)) hbm n
      rw [if_pos hmn] at eZ
      have eM := mcU_rm (z := fun u => bc 20 (w u)) hbm n
      rw [if_pos hmn] at eM
      have eT := tnU_rm (t := t) (lk := fun u => lkU w (bts S) (w u) u) hbm n
      rw [if_pos hmn] at eT
      have eK := kd_rm hm n
      rw [if_pos hmn] at eK
      have hZ' : zsU (fun u => bc 20 (w u)) (bts s) n = zsU (fun u => bc 20 (w u)) (bts (df s (2 ^ m))) n + bc 20 (w m) := eZ
      obtain ⟨Z', hZd⟩ : ∃ Z', Z' = zsU (fun u => bc 20 (w u)) (bts (df s (2 ^ m))) n := ⟨_, rfl⟩
      obtain ⟨z, hzd⟩ : ∃ z, z = bc 20 (w m) := ⟨_, rfl⟩
      have hsub : ∀ u, (df s (2 ^ m)).testBit u = true → S.testBit u = true := fun u hu => by
        rw [df_bit, Bool.and_eq_true] at hu
        exact hsS u hu.1
      have hsum : sumR (kdR w (bts (df s (2 ^ m))) n) = Z' := by
        rw [hZd]
        exact (kdR_ok (zr := fun u => bc 20 (w u)) n (fun u _ hu => ⟨(C u (hsub u hu)).2.2.2.1, rfl⟩)).2
      have hpc' : pc (df s (2 ^ m)) ≤ j := by
        have := pc_df1 (show m < 10 by omega) hm.1
        omega
      rw [hZ', ← hZd, ← hzd] at hZ
      obtain ⟨q, hq1, hq2⟩ := hwo
      have hxw : w m < 2 ^ (2 * z) := by rw [hzd]; exact wk.2.2
      -- the word's shift
      have e1 : nI wo ||| (nI (al20 (w m)) >>> (nI le &&& 31)) = nI (wo + w m * 2 ^ (20 - le - 2 * z)) := by
        rw [i_shr (Nat.lt_trans (al_lt2 wk) (by decide)) (by omega), i_or]
        congr 1
        have : al20 (w m) = w m * 2 ^ (20 - le - 2 * z) * 2 ^ le := by
          unfold al20
          rw [← hzd, Nat.mul_assoc, ← Nat.pow_add]
          congr 2
          omega
        rw [this, Nat.mul_div_cancel _ (Nat.two_pow_pos le), hq1]
        refine (Nat.two_pow_add_eq_or_of_lt ?_ q).symm
        have h1 : w m * 2 ^ (20 - le - 2 * z) < 2 ^ (2 * z) * 2 ^ (20 - le - 2 * z) := Nat.mul_lt_mul_of_pos_right hxw (Nat.two_pow_pos _)
        rw [← Nat.pow_add, show 2 * z + (20 - le - 2 * z) = 20 - le by omega] at h1
        exact h1
      have e2 : nI le + nI (2 * z) = nI (le + 2 * z) := nI_add _ _
      have e3 : nI y * ((if nI (al20 (w m)) = fo then al + 1 else 1) * nI (t m)) = nI (y * (lkU w (bts S) (w m) m * t m)) := by
        rw [hA m hm, pk_mul, pk_mul]
      have e4 : (if nI (2 * L) < nI (2 * z) then nI (2 * z) else nI (2 * L)) = nI (2 * max L z) := by
        rcases Nat.lt_or_ge L z with h | h
        · rw [if_pos (nI_lt (show 2 * L < 2 * z by omega) (by omega)), Nat.max_eq_right (Nat.le_of_lt h)]
        · rw [if_neg (nI_nlt (show 2 * z ≤ 2 * L by omega) (by omega)), Nat.max_eq_left h]
      have hw0 : w m * 2 ^ (20 - le - 2 * z) = 2 ^ (20 - (le + 2 * z)) * w m := by rw [Nat.mul_comm, show 20 - le - 2 * z = 20 - (le + 2 * z) by omega]
      have hp : 2 ^ (20 - le) = 2 ^ (20 - (le + 2 * z)) * 2 ^ (2 * z) := by rw [← Nat.pow_add]; congr 1; omega
      have step := ih (df s (2 ^ m)) (wo + w m * 2 ^ (20 - le - 2 * z)) (le + 2 * z) (y * (lkU w (bts S) (w m) m * t m)) (nI (al20 (w m))) (nI (lkU w (bts S) (w m) m)) (max L z) hsub hpc' (by omega) (by rw [← hZd]; omega) ⟨2 ^ (2 * z) * q + w m, by
        rw [hq1, hw0, hp, Nat.mul_add, Nat.mul_assoc], by
        have : 2 ^ (le + 2 * z) = 2 ^ (2 * z) * 2 ^ le := by rw [← Nat.pow_add]; congr 1; omega
        rw [this]
        have h1 : 2 ^ (2 * z) * (q + 1) ≤ 2 ^ (2 * z) * 2 ^ le := Nat.mul_le_mul_left _ hq2
        rw [Nat.mul_add, Nat.mul_one] at h1
        omega⟩ (AI_next C hsS hm hO hA) (OI_next hm hO) (by omega)
      unfold asU
      rw [if_neg h0, ← hmdef, c1, c2, c4, ← hzd, e1, e2, e3, e4, hA m hm, step, ← hZd, eM, eT, eK, hZ', ← hZd, ← hzd]
      have n1 : wo + w m * 2 ^ (20 - le - 2 * z) + catR (kdR w (bts (df s (2 ^ m))) n) * 2 ^ (20 - (le + 2 * z) - 2 * Z') = wo + catR (kdR w (bts (df s (2 ^ m))) n ++ [w m]) * 2 ^ (20 - le - 2 * (Z' + z)) := by
        rw [catR_snoc, hsum, Nat.add_mul, Nat.mul_assoc, ← Nat.pow_add, show 2 * Z' + (20 - le - 2 * (Z' + z)) = 20 - le - 2 * z by omega, show 20 - (le + 2 * z) - 2 * Z' = 20 - le - 2 * (Z' + z) by omega]
        omega
      have n2 : le + 2 * z + 2 * Z' = le + 2 * (Z' + z) := by omega
      have n3 : y * (lkU w (bts S) (w m) m * t m) * tnU t (fun u => lkU w (bts S) (w u) u) (bts (df s (2 ^ m))) n = y * (lkU w (bts S) (w m) m * t m * tnU t (fun u => lkU w (bts S) (w u) u) (bts (df s (2 ^ m))) n) := Nat.mul_assoc _ _ _
      have n4 : max (max L z) (mcU (fun u => bc 20 (w u)) (bts (df s (2 ^ m))) n) = max L (max (mcU (fun u => bc 20 (w u)) (bts (df s (2 ^ m))) n) z) := by omega
      rw [n1, n2, n3, n4]
end
