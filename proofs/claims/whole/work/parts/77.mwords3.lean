section
variable {d n : Nat} {c : Nat → List Value} {g w : Nat → Nat} {h : ab_H}
theorem Sw_lt (O : WOK g n) {s : Nat} : Sw g w n s < 1048576 := by
  rcases msU_WK (cen := (lbU s (mm g w n 1) n).2) (W := Rw g n) n (fun v hv => (Rw_ok O hv).1) with h | h
  · unfold Sw; rw [h]; decide
  · exact h.lt
/-- the vertices of a set with a word -/
def orB (W : Nat → Nat) (s x v : Nat) : Bool := s.testBit v && decide (W v = x)
theorem r_orbit (X : VW c n g) (GK : GOK g n) (O : WOK g n) {v : Nat} (hv : v < n) {K : Nat → Nat} : ∃ K', MSE m_X10_orbit (d + 15) [.ref 70, .int (nI v)] (hp (cK c K)) (some (.int (nI (stU (orB (Rw g n) (mc g n v) (Rw g n v)) n)))) (hp (cK c K')) := by
  have hn := X.1
  obtain ⟨z, H⟩ := (X.k (K := K)).M
  have hm : mc g n v < 1024 := mr_lt X.2.1 (by omega)
  have hwv := (Rw_ok O hv).1.lt
  obtain ⟨B, hB⟩ : ∃ B, B = orB (Rw g n) (mc g n v) (Rw g n v) := ⟨_, rfl⟩
  rw [← hB]
  have key : ∀ j k K, k + j = n → ∃ K', a_X10_orbit_18 (d + 15) 0 0 70 (nI (mc g n v)) (nI (Rw g n v)) (nI (stU B k)) (nI k) (hp (cK c K)) (rI (nI (stU B n)) (hp (cK c K'))) := by
    intro j
    induction j with
    | zero =>
      intro k K hk
      have : k = n := by omega
      subst this
      obtain ⟨z, H⟩ := (X.k (K := K)).M
      exact ⟨K, b_X10_orbit_18 H (r_many X.k) (fun _ => b_X10_orbit_61 ⟨rfl, rfl⟩) (fun q => absurd (nI_le (Nat.le_refl k) (by omega)) q)⟩
    | succ j ih =>
      intro k K hk
      have hkn : k < n := by omega
      obtain ⟨z, H⟩ := (X.k (K := K)).M
      by_cases hb : (mc g n v).testBit k = true
      · obtain ⟨K1, m1⟩ := r_rootWord (d := d) X O hkn (K := K)
        obtain ⟨K2, m2⟩ := ih (k + 1) K1 (by omega)
        have hwk := (Rw_ok O hkn).1.lt
        rw [stU_s] at m2
        have eB : B k = decide (Rw g n k = Rw g n v) := by rw [hB]; unfold orB; rw [hb]; rfl
        refine ⟨K2, b_X10_orbit_18 H (r_many X.k) (fun q => absurd q (nI_ge hkn (by omega))) (fun _ => b_X10_orbit_27 (r_has (by omega) (by omega)) (fun q => ?_) (fun _ => b_X10_orbit_36 H m1 (fun q => b_X10_orbit_55 ?_) (fun q => b_X10_orbit_46 (b_X10_orbit_55 ?_))))⟩
        · rw [h01.mp q] at hb; cases hb
        · have : ¬ Rw g n k = Rw g n v := fun e => q (by rw [e])
          rw [if_neg (by rw [eB, decide_eq_false this]; decide)] at m2
          rw [nI_1]; exact m2
        · have : Rw g n k = Rw g n v := (i_eq (by omega) (by omega)).mp q
          rw [if_pos (by rw [eB, decide_eq_true this])] at m2
          rw [nI_1, i_shl1 (by omega), i_or]; exact m2
      · obtain ⟨K2, m2⟩ := ih (k + 1) K (by omega)
        rw [stU_s, if_neg (by rw [hB]; unfold orB; rw [Bool.and_eq_true]; exact fun e => hb e.1)] at m2
        refine ⟨K2, b_X10_orbit_18 H (r_many X.k) (fun q => absurd q (nI_ge hkn (by omega))) (fun _ => b_X10_orbit_27 (r_has (by omega) (by omega)) (fun q => b_X10_orbit_55 ?_) (fun q => absurd (tb_of q) hb))⟩
        rw [nI_1]; exact m2
  obtain ⟨K1, m1⟩ := r_rootWord (d := d) X O hv (K := K)
  obtain ⟨K2, m2⟩ := key n 0 K1 (by omega)
  obtain ⟨z, H⟩ := (X.k (K := K)).M
  exact ⟨K2, e_X10_orbit (b_X10_orbit_0 H (r_component (d := d + 12) X.k GK (by omega)) H m1 m2)⟩
/-- how often a word came, and once more -/
def lkU (W : Nat → Nat) (ch : Nat → Bool) (x : Nat) : Nat → Nat
  | 0 => 1
  | u + 1 => if ch u = true ∧ W u = x then lkU W ch x u + 1 else lkU W ch x u
def tnU (rec lk : Nat → Nat) (ch : Nat → Bool) : Nat → Nat
  | 0 => 1
  | u + 1 => if ch u = true then tnU rec lk ch u * (lk u * rec u) else tnU rec lk ch u
/-- the symmetries that leave a root -/
def Tn (g : Nat → Nat) (n : Nat) : Nat → Nat → Option Nat → Nat
  | 0, _, _ => 1
  | l + 1, v, pa => tnU (fun u => Tn g n l u (some v)) (fun u => lkU (fun u => Wd g n l u (some v)) (chB g v pa) (Wd g n l u (some v)) u) (chB g v pa) n
theorem r_turns (X : VW c n g) : ∀ l v pa K d, v < 10 → (∀ p, pa = some p → p < 10) → FT g n l v pa → zs g n l v pa ≤ 10 → l ≤ 10 →
    ∃ K', MSE m_X10_turns (d + l + 3) [.ref 70, .int (nI v), .int (iO pa)] (hp (cK c K)) (some (.int (nI (Tn g n l v pa)))) (hp (cK c K'))
  | 0, _, _, _, _, _, _, hf, _, _ => absurd hf id
  | l + 1, v, pa, K, d, hv, hpa, hf, hz, hl => by
    have hn := X.1
    have hz : zsU (fun u => zs g n l u (some v)) (chB g v pa) n + 1 ≤ 10 := hz
    have hzu : ∀ u, u < n → chB g v pa u = true → zs g n l u (some v) ≤ 10 := fun u hu hc => by
      have := zsU_at (rec := fun u => zs g n l u (some v)) hu hc
      have this : zs g n l u (some v) ≤ zsU (fun u => zs g n l u (some v)) (chB g v pa) n := this
      omega
    obtain ⟨W, hW⟩ : ∃ W, W = fun u => Wd g n l u (some v) := ⟨_, rfl⟩
    obtain ⟨rec, hrec⟩ : ∃ rec, rec = fun u => Tn g n l u (some v) := ⟨_, rfl⟩
    obtain ⟨ch, hch⟩ : ∃ ch, ch = chB g v pa := ⟨_, rfl⟩
    have hWl : ∀ u, u < n → ch u = true → W u < 1048576 := fun u hu hc => by
      rw [hW]; rw [hch] at hc
      exact (Wd_ok l u (some v) (hf u hu hc) (hzu u hu hc)).1.lt
    have mW : ∀ u K, u < n → ch u = true → ∃ K', MSE m_X10_wordOf (d + l + 3) [.ref 70, .int (nI u), .int (nI v), .int (nI 0)] (hp (cK c K)) (some (.int (nI (W u)))) (hp (cK c K')) := fun u K hu hc => by
      rw [hch] at hc
      obtain ⟨K', m, -⟩ := r_wordOf X l u (some v) 0 K d (by omega) (fun p q => by cases q; exact hv) (hf u hu hc) (hzu u hu hc) (by omega)
      exact ⟨K', by rw [hW]; exact m⟩
    have eT : Tn g n (l + 1) v pa = tnU rec (fun u => lkU W ch (W u) u) ch n := by rw [hW, hrec, hch]; rfl
    rw [eT]
    -- the inner loop: how many like words came
    have loop2 : ∀ (k p : Nat) (r : Int32), k < n → ch k = true → (∀ K, ∃ K', SW none m_X10_turns (d + l + 1 + 3) 0 0 107 [some (.ref 70), some (.int (nI v)), some (.int (iO pa)), some (.int (nI p)), some (.int (nI k)), none, some (.int (nI (lkU W ch (W k) k))), none] [] (hp (cK c K)) (rI r (hp (cK c K')))) → ∀ j i K, i + j = k → ∃ K', a_X10_turns_52 (d + l + 1 + 3) 0 0 70 (nI v) (iO pa) (nI p) (nI k) (nI (W k)) (nI (lkU W ch (W k) i)) (nI i) (hp (cK c K)) (rI r (hp (cK c K'))) := by
      intro k p r hk hck hend j
      induction j with
      | zero =>
        intro i K hi
        have : i = k := by omega
        subst this
        obtain ⟨K', m⟩ := hend K
        exact ⟨K', b_X10_turns_52 (fun _ => m) (fun q => absurd (nI_le (Nat.le_refl i) (by omega)) q)⟩
      | succ j ih =>
        intro i K hi
        obtain ⟨z, H⟩ := (X.k (K := K)).M
        have hin : i < n := by omega
        by_cases hc : ch i = true
        · obtain ⟨h1, h2⟩ := chB_of.mp (show chB g v pa i = true by rw [← hch]; exact hc)
          obtain ⟨K1, m1⟩ := mW i K hin hc
          obtain ⟨K2, m2⟩ := ih (i + 1) K1 (by omega)
          refine ⟨K2, b_X10_turns_52 (fun q => absurd q (nI_ge (show i < k by omega) (by omega))) (fun _ => b_X10_turns_59 H (r_at X.k hv) (r_has (by have := X.2.1 v; omega) (by omega)) (fun q => ?_) (fun _ => b_X10_turns_74 (fun q => ?_) (fun _ => b_X10_turns_80 H m1 (fun q => b_X10_turns_97 (b_X10_turns_98 ?_)) (fun q => b_X10_turns_93 (b_X10_turns_98 ?_)))))⟩
          · rw [h01.mp q] at h1; cases h1
          · exact absurd ((ne_pa (by omega) hpa).mp q) h2
          · have e : lkU W ch (W k) (i + 1) = lkU W ch (W k) i := if_neg (fun e => q (by rw [e.2]))
            rw [e] at m2
            rw [nI_1, show nI (lkU W ch (W k) i) + 0 = nI (lkU W ch (W k) i) from nI_add _ 0]; exact m2
          · have e : lkU W ch (W k) (i + 1) = lkU W ch (W k) i + 1 := if_pos ⟨hc, (i_eq (by have := hWl i hin hc; omega) (by have := hWl k hk hck; omega)).mp q⟩
            rw [e] at m2
            rw [nI_1, nI_1]; exact m2
        · obtain ⟨K2, m2⟩ := ih (i + 1) K (by omega)
          have e : lkU W ch (W k) (i + 1) = lkU W ch (W k) i := if_neg (fun e => hc e.1)
          rw [e] at m2
          have fin : SW none m_X10_turns (d + l + 1 + 3) 0 0 97 [some (.ref 70), some (.int (nI v)), some (.int (iO pa)), some (.int (nI p)), some (.int (nI k)), some (.int (nI (W k))), none, some (.int (nI i))] [.int (nI (lkU W ch (W k) i))] (hp (cK c K)) (rI r (hp (cK c K2))) := by
            refine b_X10_turns_97 (b_X10_turns_98 ?_)
            rw [nI_1, show nI (lkU W ch (W k) i) + 0 = nI (lkU W ch (W k) i) from nI_add _ 0]; exact m2
          refine ⟨K2, b_X10_turns_52 (fun q => absurd q (nI_ge (show i < k by omega) (by omega))) (fun _ => b_X10_turns_59 H (r_at X.k hv) (r_has (by have := X.2.1 v; omega) (by omega)) (fun _ => fin) (fun q => b_X10_turns_74 (fun _ => fin) (fun q2 => ?_)))⟩
          exact absurd (show ch i = true by rw [hch]; exact chB_of.mpr ⟨tb_of q, fun e => q2 ((ne_pa (by omega) hpa).mpr e)⟩) hc
    have loop : ∀ j k K, k + j = n → ∃ K', a_X10_turns_5 (d + l + 1 + 3) 0 0 70 (nI v) (iO pa) (nI (tnU rec (fun u => lkU W ch (W u) u) ch k)) (nI k) (hp (cK c K)) (rI (nI (tnU rec (fun u => lkU W ch (W u) u) ch n)) (hp (cK c K'))) := by
      intro j
      induction j with
      | zero =>
        intro k K hk
        have : k = n := by omega
        subst this
        obtain ⟨z, H⟩ := (X.k (K := K)).M
        exact ⟨K, b_X10_turns_5 H (r_many X.k) (fun _ => b_X10_turns_126 ⟨rfl, rfl⟩) (fun q => absurd (nI_le (Nat.le_refl k) (by omega)) q)⟩
      | succ j ih =>
        intro k K hk
        have hkn : k < n := by omega
        obtain ⟨z, H⟩ := (X.k (K := K)).M
        by_cases hc : ch k = true
        · have hc' : chB g v pa k = true := by rw [← hch]; exact hc
          obtain ⟨h1, h2⟩ := chB_of.mp hc'
          obtain ⟨K1, m1⟩ := mW k K hkn hc
          have e : tnU rec (fun u => lkU W ch (W u) u) ch (k + 1) = tnU rec (fun u => lkU W ch (W u) u) ch k * (lkU W ch (W k) k * rec k) := if_pos hc
          obtain ⟨K2, m2⟩ := loop2 k (tnU rec (fun u => lkU W ch (W u) u) ch k) (nI (tnU rec (fun u => lkU W ch (W u) u) ch n)) hkn hc (fun K => by
            obtain ⟨z, H⟩ := (X.k (K := K)).M
            obtain ⟨K3, m3⟩ := r_turns X l k (some v) K d (by omega) (fun p q => by cases q; exact hv) (hf k hkn hc') (hzu k hkn hc') (by omega)
            obtain ⟨K4, m4⟩ := ih (k + 1) K3 (by omega)
            rw [e] at m4
            have m3 : MSE m_X10_turns (d + l + 3) [.ref 70, .int (nI k), .int (nI v)] (hp (cK c K)) (some (.int (nI (rec k)))) (hp (cK c K3)) := by rw [hrec]; exact m3
            refine ⟨K4, b_X10_turns_107 H m3 (b_X10_turns_120 ?_)⟩
            rw [nI_1, show nI (lkU W ch (W k) k) * nI (rec k) = nI (lkU W ch (W k) k * rec k) from pk_mul _ _, show nI (tnU rec (fun u => lkU W ch (W u) u) ch k) * nI (lkU W ch (W k) k * rec k) = nI (tnU rec (fun u => lkU W ch (W u) u) ch k * (lkU W ch (W k) k * rec k)) from pk_mul _ _]
            exact m4) k 0 K1 (by omega)
          refine ⟨K2, b_X10_turns_5 H (r_many X.k) (fun q => absurd q (nI_ge hkn (by omega))) (fun _ => b_X10_turns_14 H (r_at X.k hv) (r_has (by have := X.2.1 v; omega) (by omega)) (fun q => ?_) (fun _ => b_X10_turns_27 (fun _ => b_X10_turns_36 H m1 m2) (fun q => ?_)))⟩
          · rw [h01.mp q] at h1; cases h1
          · exact absurd ((ne_pa (by omega) hpa).mp q) h2
        · obtain ⟨K2, m2⟩ := ih (k + 1) K (by omega)
          have e : tnU rec (fun u => lkU W ch (W u) u) ch (k + 1) = tnU rec (fun u => lkU W ch (W u) u) ch k := if_neg hc
          rw [e] at m2
          refine ⟨K2, b_X10_turns_5 H (r_many X.k) (fun q => absurd q (nI_ge hkn (by omega))) (fun _ => b_X10_turns_14 H (r_at X.k hv) (r_has (by have := X.2.1 v; omega) (by omega)) (fun q => b_X10_turns_120 ?_) (fun q => b_X10_turns_27 (fun q2 => ?_) (fun _ => b_X10_turns_33 (b_X10_turns_120 ?_))))⟩
          · rw [nI_1]; exact m2
          · exact absurd (show ch k = true by rw [hch]; exact chB_of.mpr ⟨tb_of q, fun e => q2 ((ne_pa (by omega) hpa).mpr e)⟩) hc
          · rw [nI_1]; exact m2
    obtain ⟨K', m⟩ := loop n 0 K (by omega)
    exact ⟨K', e_X10_turns (b_X10_turns_0 m)⟩
/-- the symmetries of a component with the root v -/
def Sy (g : Nat → Nat) (n v : Nat) : Nat := pc (stU (orB (Rw g n) (mc g n v) (Rw g n v)) n) * Tn g n 10 v none
theorem r_symmetriesOf (X : VW c n g) (GK : GOK g n) (O : WOK g n) {s v : Nat} (hs : s < 1024) (hl : low s = some v) (hv : v < n) {K : Nat → Nat} : ∃ K', MSE m_X10_symmetriesOf (d + 16) [.ref 70, .int (nI s)] (hp (cK c K)) (some (.int (nI (Sy g n v)))) (hp (cK c K')) := by
  have hn := X.1
  obtain ⟨K1, m1⟩ := r_orbit (d := d) X GK O hv (K := K)
  obtain ⟨K2, m2⟩ := r_turns X 10 v none K1 (d + 2) (by omega) (fun p q => by cases q) (O v hv).1 (O v hv).2 (by decide)
  obtain ⟨z, H⟩ := (X.k (K := K)).M
  obtain ⟨z1, H1⟩ := (X.k (K := K1)).M
  have e : lz s = v := by rw [lz_low, hl]; rfl
  have m0 := r_lowest (d := d + 14) (h := hp (cK c K)) hs
  rw [e] at m0
  have hst := stU_lt (p := orB (Rw g n) (mc g n v) (Rw g n v)) n hn
  refine ⟨K2, e_X10_symmetriesOf (b_X10_symmetriesOf_0 m0 H m1 (r_ones (d := d + 14) hst) H1 m2 ⟨?_, rfl⟩)⟩
  rw [show nI (pc (stU (orB (Rw g n) (mc g n v) (Rw g n v)) n)) * nI (Tn g n 10 v none) = nI (Sy g n v) from pk_mul _ _]
/-- the word of the component with a number -/
def Cw (g w : Nat → Nat) (n k : Nat) : Nat := Sw g w n (ma g n (nI k))
/-- new words -/
def nwB (W : Nat → Nat) (k : Nat) : Bool := decide ((List.range k).find? (fun i => decide (W i = W k)) = none)
theorem r_compWord (X : VW c n g) (GK : GOK g n) (Y : MWt c w) (O : WOK g n) {k : Nat} {K : Nat → Nat} : MSE m_X10_componentAt (d + 15) [.ref 70, .int (nI k)] (hp (cK c K)) (some (.int (nI (ma g n (nI k))))) (hp (cK c K)) ∧ ∃ K', MSE m_X10_wordOfSet (d + 15) [.ref 70, .int (nI (ma g n (nI k)))] (hp (cK c K)) (some (.int (nI (Cw g w n k)))) (hp (cK c K')) :=
  ⟨r_componentAt (d := d + 12) X.k GK, r_wordOfSet X GK Y O (ma_lt X.2.1 X.1)⟩
theorem r_isNew (X : VW c n g) (GK : GOK g n) (Y : MWt c w) (O : WOK g n) {k : Nat} (hk : k ≤ 10) {K : Nat → Nat} : ∃ K', MSE m_X10_isNew (d + 16) [.ref 70, .int (nI k)] (hp (cK c K)) (some (.int (nI (if nwB (Cw g w n) k = true then 1 else 0)))) (hp (cK c K')) := by
  have key : ∀ j i K, i + j = k → (∀ q, q < i → ¬ Cw g w n q = Cw g w n k) → ∃ K', a_X10_isNew_12 (d + 16) 0 0 70 (nI k) (nI (Cw g w n k)) (nI i) (hp (cK c K)) (rI (nI (if nwB (Cw g w n) k = true then 1 else 0)) (hp (cK c K'))) := by
    intro j
    induction j with
    | zero =>
      intro i K hi hz
      have : i = k := by omega
      subst this
      have e : nwB (Cw g w n) i = true := decide_eq_true (find_none (fun q hq => decide_eq_false (hz q hq)))
      rw [if_pos e]
      exact ⟨K, b_X10_isNew_12 (fun _ => b_X10_isNew_38 ⟨rfl, rfl⟩) (fun q => absurd (nI_le (Nat.le_refl i) (by omega)) q)⟩
    | succ j ih =>
      intro i K hi hz
      obtain ⟨z, H⟩ := (X.k (K := K)).M
      obtain ⟨m1, K1, m2⟩ := r_compWord (d := d) X GK Y O (k := i) (K := K)
      have l1 : Cw g w n i < 1048576 := Sw_lt O
      have l2 : Cw g w n k < 1048576 := Sw_lt O
      by_cases e : Cw g w n i = Cw g w n k
      · have e2 : nwB (Cw g w n) k = false := decide_eq_false (fun q => by
          rw [List.find?_eq_none] at q
          exact q i (List.mem_range.mpr (by omega)) (decide_eq_true e))
        rw [e2, if_neg (by decide)]
        exact ⟨K1, b_X10_isNew_12 (fun q => absurd q (nI_ge (show i < k by omega) (by omega))) (fun _ => b_X10_isNew_17 H m1 H m2 (fun q => absurd (by rw [e]) q) (fun _ => b_X10_isNew_30 ⟨rfl, rfl⟩))⟩
      · obtain ⟨K2, m3⟩ := ih (i + 1) K1 (by omega) (fun q hq => by
          rcases Nat.lt_succ_iff_lt_or_eq.mp hq with h1 | h1
          · exact hz q h1
          · rw [h1]; exact e)
        refine ⟨K2, b_X10_isNew_12 (fun q => absurd q (nI_ge (show i < k by omega) (by omega))) (fun _ => b_X10_isNew_17 H m1 H m2 (fun q => b_X10_isNew_32 ?_) (fun q => absurd ((i_eq (by omega) (by omega)).mp q) e))⟩
        rw [nI_1]; exact m3
  obtain ⟨z, H⟩ := (X.k (K := K)).M
  obtain ⟨m1, K1, m2⟩ := r_compWord (d := d) X GK Y O (k := k) (K := K)
  obtain ⟨K2, m3⟩ := key k 0 K1 (by omega) (fun q hq => absurd hq (Nat.not_lt_zero q))
  exact ⟨K2, e_X10_isNew (b_X10_isNew_0 H m1 H m2 m3)⟩
/-- the first component with the word of this one; its class -/
def fsK (W : Nat → Nat) (k : Nat) : Nat := ((List.range k).find? (fun i => decide (W i = W k))).getD k
theorem r_classU (X : VW c n g) (GK : GOK g n) (Y : MWt c w) (O : WOK g n) {k : Nat} (hk : k ≤ 10) {r : Int32} (hend : ∀ i K, i < k → Cw g w n i = Cw g w n k → (∀ q, q < i → ¬ Cw g w n q = Cw g w n k) → ∃ K', SW none m_X10_classAt (d + 17 + 1) 0 0 39 [some (.ref 70), none, none, none, some (.int (nI i)), none] [] (hp (cK c K)) (rI r (hp (cK c K')))) (hlast : (∀ q, q < k → ¬ Cw g w n q = Cw g w n k) → r = nI (cnU (nwB (Cw g w n)) k)) :
    ∀ j i K, i + j = k → (∀ q, q < i → ¬ Cw g w n q = Cw g w n k) → ∃ K', a_X10_classAt_15 (d + 17 + 1) 0 0 70 (nI k) (nI (Cw g w n k)) (nI (cnU (nwB (Cw g w n)) i)) (nI i) (hp (cK c K)) (rI r (hp (cK c K'))) := by
  intro j
  induction j with
  | zero =>
    intro i K hi hz
    have : i = k := by omega
    subst this
    rw [hlast hz]
    exact ⟨K, b_X10_classAt_15 (fun _ => b_X10_classAt_69 ⟨rfl, rfl⟩) (fun q => absurd (nI_le (Nat.le_refl i) (by omega)) q)⟩
  | succ j ih =>
    intro i K hi hz
    obtain ⟨z, H⟩ := (X.k (K := K)).M
    obtain ⟨m1, K1, m2⟩ := r_compWord (d := d + 2) X GK Y O (k := i) (K := K)
    have l1 : Cw g w n i < 1048576 := Sw_lt O
    have l2 : Cw g w n k < 1048576 := Sw_lt O
    by_cases e : Cw g w n i = Cw g w n k
    · obtain ⟨K2, m3⟩ := hend i K1 (by omega) e hz
      exact ⟨K2, b_X10_classAt_15 (fun q => absurd q (nI_ge (show i < k by omega) (by omega))) (fun _ => b_X10_classAt_21 H m1 H m2 (fun q => absurd (by rw [e]) q) (fun _ => m3))⟩
    · obtain ⟨K2, m3⟩ := r_isNew (d := d + 1) X GK Y O (k := i) (by omega) (K := K1)
      obtain ⟨K3, m4⟩ := ih (i + 1) K2 (by omega) (fun q hq => by
        rcases Nat.lt_succ_iff_lt_or_eq.mp hq with h1 | h1
        · exact hz q h1
        · rw [h1]; exact e)
      obtain ⟨z1, H1⟩ := (X.k (K := K1)).M
      rw [cnU_s] at m4
      refine ⟨K3, b_X10_classAt_15 (fun q => absurd q (nI_ge (show i < k by omega) (by omega))) (fun _ => b_X10_classAt_21 H m1 H m2 (fun q => b_X10_classAt_46 H1 m3 (fun q2 => b_X10_classAt_60 (b_X10_classAt_61 ?_)) (fun q2 => b_X10_classAt_56 (b_X10_classAt_61 ?_))) (fun q => absurd ((i_eq (by omega) (by omega)).mp q) e))⟩
      · rw [if_neg (by rw [h01.mp q2]; decide)] at m4
        rw [nI_1, show nI (cnU (nwB (Cw g w n)) i) + 0 = nI (cnU (nwB (Cw g w n)) i) from nI_add _ 0]; exact m4
      · rw [if_pos (tb_of q2)] at m4
        rw [nI_1, nI_1]; exact m4
/-- its class -/
def Kl (W : Nat → Nat) (k : Nat) : Nat := cnU (nwB W) (fsK W k)
theorem r_classAt0 (X : VW c n g) (GK : GOK g n) (Y : MWt c w) (O : WOK g n) {k : Nat} (hk : k ≤ 10) (hz : ∀ q, q < k → ¬ Cw g w n q = Cw g w n k) {K : Nat → Nat} : ∃ K', MSE m_X10_classAt (d + 18) [.ref 70, .int (nI k)] (hp (cK c K)) (some (.int (nI (cnU (nwB (Cw g w n)) k)))) (hp (cK c K')) := by
  obtain ⟨z, H⟩ := (X.k (K := K)).M
  obtain ⟨m1, K1, m2⟩ := r_compWord (d := d + 2) X GK Y O (k := k) (K := K)
  obtain ⟨K2, m3⟩ := r_classU (d := d) X GK Y O hk (r := nI (cnU (nwB (Cw g w n)) k)) (fun i K hi e _ => absurd e (hz i hi)) (fun _ => rfl) k 0 K1 (by omega) (fun q hq => absurd hq (Nat.not_lt_zero q))
  exact ⟨K2, e_X10_classAt (b_X10_classAt_0 H m1 H m2 m3)⟩
theorem r_classAt (X : VW c n g) (GK : GOK g n) (Y : MWt c w) (O : WOK g n) {k : Nat} (hk : k ≤ 10) {K : Nat → Nat} : ∃ K', MSE m_X10_classAt (d + 19) [.ref 70, .int (nI k)] (hp (cK c K)) (some (.int (nI (Kl (Cw g w n) k)))) (hp (cK c K')) := by
  obtain ⟨z, H⟩ := (X.k (K := K)).M
  obtain ⟨m1, K1, m2⟩ := r_compWord (d := d + 3) X GK Y O (k := k) (K := K)
  obtain ⟨K2, m3⟩ := r_classU (d := d + 1) X GK Y O hk (r := nI (Kl (Cw g w n) k)) (fun i K hi e hz => by
    obtain ⟨z, H⟩ := (X.k (K := K)).M
    have e1 : fsK (Cw g w n) k = i := by
      unfold fsK
      rw [find_range hi (decide_eq_true e) (fun q hq => decide_eq_false (hz q hq))]; rfl
    obtain ⟨K2, m⟩ := r_classAt0 (d := d) X GK Y O (k := i) (by omega) (fun q hq => by rw [e]; exact hz q hq) (K := K)
    refine ⟨K2, b_X10_classAt_39 H m ⟨?_, rfl⟩⟩
    unfold Kl
    rw [e1]) (fun hz => by
      have e1 : fsK (Cw g w n) k = k := by
        unfold fsK
        rw [find_none (fun q hq => decide_eq_false (hz q hq))]; rfl
      unfold Kl
      rw [e1]) k 0 K1 (by omega) (fun q hq => absurd hq (Nat.not_lt_zero q))
  exact ⟨K2, e_X10_classAt (b_X10_classAt_0 H m1 H m2 m3)⟩
end
