/-! words of the reference, the recursion -/
section
variable {d n : Nat} {c : Nat → List Value} {g w : Nat → Nat} {h : ab_H}
theorem iO_some {v : Nat} : iO (some v) = nI v := rfl
theorem ne_pa {u : Nat} {pa : Option Nat} (hu : u < 2147483648) (hpa : ∀ p, pa = some p → p < 10) : nI u = iO pa ↔ pa = some u := by
  have := iO_inj (o := some u) (o' := pa) (fun k q => by cases q; exact hu) (fun k q => by have := hpa k q; omega)
  rw [iO_some] at this
  rw [this]
  exact ⟨Eq.symm, Eq.symm⟩
theorem KL_mid {K : Nat → Nat} {b x : Nat} {s : List Nat} : ∀ l : List Nat, KL K b (l ++ x :: s) → K (b + s.length) = x
  | [], h => h.1
  | _ :: l, h => KL_mid l h.2
theorem WK_mono {x : Nat} {r s : List Nat} (h : ∀ y ∈ r, WK y) (hs : ∀ y ∈ s, y ∈ r) : ∀ y ∈ s, WK y := fun y hy => h y (hs y hy)
theorem sumR_app : ∀ (l s : List Nat), sumR (l ++ s) = sumR l + sumR s
  | [], s => (Nat.zero_add _).symm
  | x :: l, s => by
    show sumR (l ++ s) + bc 20 x = sumR l + bc 20 x + sumR s
    rw [sumR_app l s]; omega
theorem cat_loop (X : VW c n g) {P : ab_O → ab_H → Prop} {b : Nat} {K : Nat → Nat} {r : List Nat} (hw : ∀ y ∈ r, WK y) (hs : sumR r ≤ 10) (hb : b + r.length ≤ 121) (hk : KL K b r) (kk : SW none m_X10_wordOf (d + 3) 0 0 183 [none, none, none, none, none, none, some (.int (nI (catR r))), none, none] [] (hp (cK c K)) P) : ∀ s1 s2 : List Nat, r = s1.reverse ++ s2 → a_X10_wordOf_139 (d + 3) 0 0 70 (nI b) (nI r.length) (nI (catR s2)) (nI s2.length) (hp (cK c K)) P
  | [], s2, h => by
    have e : r = s2 := h
    rw [← e]
    exact b_X10_wordOf_139 (fun _ => kk) (fun q => absurd (nI_le (Nat.le_refl _) (by omega)) q)
  | x :: s1, s2, h => by
    rw [List.reverse_cons, List.append_assoc] at h
    have h : r = s1.reverse ++ (x :: s2) := h
    have hlen : s1.length + (s2.length + 1) = r.length := by rw [h, List.length_append, List.length_reverse]; rfl
    have hx : K (b + s2.length) = x := KL_mid s1.reverse (by rw [← h]; exact hk)
    have hwx : WK x := hw x (by rw [h]; exact List.mem_append_right _ List.mem_cons_self)
    have hw2 : ∀ y ∈ s2, WK y := fun y hy => hw y (by rw [h]; exact List.mem_append_right _ (List.mem_cons_of_mem _ hy))
    have hsum : sumR s2 + bc 20 x ≤ 10 := by
      rw [h, sumR_app] at hs
      have : sumR (x :: s2) = sumR s2 + bc 20 x := rfl
      omega
    obtain ⟨c1, c2⟩ := catR_ok s2 hw2 (by omega)
    obtain ⟨z, H⟩ := (X.k (K := K)).M
    have e1 : nI b + nI s2.length = nI (b + s2.length) := nI_add _ _
    have hcat : catR s2 * 2 ^ (2 * bc 20 x) + x < 2 ^ 20 := by
      have := (catR_ok (x :: s2) (fun y hy => by
        rcases List.mem_cons.mp hy with e | hy
        · rw [e]; exact hwx
        · exact hw2 y hy) hsum).2
      exact Nat.lt_of_lt_of_le this (Nat.pow_le_pow_right (by decide) (by show 2 * (sumR s2 + bc 20 x) ≤ 20; omega))
    have e2 : (nI (catR s2) <<< ((2 * nI (bc 20 x)) &&& 31)) ||| nI x = nI (catR (x :: s2)) := by
      rw [show (2 : Int32) * nI (bc 20 x) = nI (2 * bc 20 x) from pk_mul 2 _, i_shl (by omega) (by omega), i_or]
      congr 1
      show _ = catR s2 * 2 ^ (2 * bc 20 x) + x
      rw [Nat.mul_comm, Nat.two_pow_add_eq_or_of_lt hwx.2.2]
    have hat : (ar 121 (fun i => nI (K i)))[(nI (b + s2.length)).toNatClampNeg]? = some (.int (nI x)) := by rw [at121 (by omega), hx]
    refine b_X10_wordOf_139 (fun q => absurd q (nI_ge (show s2.length < r.length by omega) (by omega))) (fun _ => b_X10_wordOf_146 (x8 := nI x) (x17 := nI x) H rfl cK_H (by rw [e1]; exact nI_pos (by omega)) (by rw [e1]; exact hat) (r_ones20 hwx.lt) H rfl cK_H (by rw [e1]; exact nI_pos (by omega)) (by rw [e1]; exact hat) ?_)
    rw [nI_1, e2]
    exact cat_loop X hw hs hb hk kk s1 (x :: s2) h
theorem chB_of {v u : Nat} {pa : Option Nat} : chB g v pa u = true ↔ (g v).testBit u = true ∧ pa ≠ some u := by
  unfold chB
  rw [Bool.and_eq_true, decide_eq_true_eq]
theorem r_wordOf (X : VW c n g) : ∀ l v pa dp K d, v < 10 → (∀ p, pa = some p → p < 10) → FT g n l v pa → zs g n l v pa ≤ 10 → dp + l ≤ 10 →
    ∃ K', MSE m_X10_wordOf (d + l + 3) [.ref 70, .int (nI v), .int (iO pa), .int (nI dp)] (hp (cK c K)) (some (.int (nI (Wd g n l v pa)))) (hp (cK c K')) ∧ ∀ i, i < 11 * dp → K' i = K i
  | 0, _, _, _, _, _, _, _, hf, _, _ => absurd hf id
  | l + 1, v, pa, dp, K, d, hv, hpa, hf, hz, hdp => by
    have hn := X.1
    have hz : zsU (fun u => zs g n l u (some v)) (chB g v pa) n + 1 ≤ 10 := hz
    have hzu : ∀ u, u < n → chB g v pa u = true → zs g n l u (some v) ≤ 10 := fun u hu hc => by
      have := zsU_at (rec := fun u => zs g n l u (some v)) hu hc
      have this : zs g n l u (some v) ≤ zsU (fun u => zs g n l u (some v)) (chB g v pa) n := this
      omega
    have hok : ∀ m, m ≤ n → (∀ x ∈ kdR (fun u => Wd g n l u (some v)) (chB g v pa) m, WK x) ∧ sumR (kdR (fun u => Wd g n l u (some v)) (chB g v pa) m) = zsU (fun u => zs g n l u (some v)) (chB g v pa) m := fun m hm => kdR_ok m (fun u hu hc => Wd_ok l u (some v) (hf u (by omega) hc) (hzu u (by omega) hc))
    have hlen : ∀ m, m ≤ n → (kdR (fun u => Wd g n l u (some v)) (chB g v pa) m).length ≤ 9 := fun m hm => by
      have h1 := len_sum _ (hok m hm).1
      rw [(hok m hm).2] at h1
      have h2 := zsU_le (rec := fun u => zs g n l u (some v)) (ch := chB g v pa) (n - m) m
      rw [show m + (n - m) = n by omega] at h2
      omega
    obtain ⟨hwn, hsn⟩ := hok n (Nat.le_refl _)
    have hln := hlen n (Nat.le_refl _)
    have hb121 : 11 * dp + 10 < 121 := by omega
    have e11 : (11 : Int32) * nI dp = nI (11 * dp) := pk_mul 11 dp
    have hcat := catR_ok _ hwn (by omega)
    have eW : Wd g n (l + 1) v pa = catR (kdR (fun u => Wd g n l u (some v)) (chB g v pa) n) * 2 + 1 := rfl
    have loop : ∀ j k K, k + j = n → KL K (11 * dp) (kdR (fun u => Wd g n l u (some v)) (chB g v pa) k) → ∃ K', a_X10_wordOf_12 (d + l + 1 + 3) 0 0 70 (nI v) (iO pa) (nI dp) (nI (11 * dp)) (nI (kdR (fun u => Wd g n l u (some v)) (chB g v pa) k).length) (nI k) (hp (cK c K)) (rI (nI (Wd g n (l + 1) v pa)) (hp (cK c K'))) ∧ ∀ i, i < 11 * dp → K' i = K i := by
      intro j
      induction j with
      | zero =>
        intro k K hk hkl
        have : k = n := by omega
        subst this
        obtain ⟨z, H⟩ := (X.k (K := K)).M
        refine ⟨K, b_X10_wordOf_12 H (r_many X.k) (fun _ => b_X10_wordOf_133 ?_) (fun q => absurd (nI_le (Nat.le_refl k) (by omega)) q), fun _ _ => rfl⟩
        refine cat_loop X hwn (by omega) (by omega) hkl (b_X10_wordOf_183 ⟨?_, rfl⟩) (kdR (fun u => Wd g k l u (some v)) (chB g v pa) k).reverse [] (by rw [List.reverse_reverse, List.append_nil])
        have hc2 : catR (kdR (fun u => Wd g k l u (some v)) (chB g v pa) k) < 2 ^ 18 := Nat.lt_of_lt_of_le hcat.2 (Nat.pow_le_pow_right (by decide) (by omega))
        rw [eW, show (1 : Int32) &&& 31 = nI 1 &&& 31 from rfl, i_shl (by decide) (by omega), show (1 : Int32) = nI 1 from rfl, i_or]
        congr 4
        rw [Nat.mul_comm _ (2 ^ 1), ← Nat.two_pow_add_eq_or_of_lt (show 1 < 2 ^ 1 by decide)]
      | succ j ih =>
        intro k K hk hkl
        have hkn : k < n := by omega
        obtain ⟨z, H⟩ := (X.k (K := K)).M
        by_cases hc : chB g v pa k = true
        · obtain ⟨h1, h2⟩ := chB_of.mp hc
          obtain ⟨K1, m1, f1⟩ := r_wordOf X l k (some v) (dp + 1) K d (by omega) (fun p q => by cases q; exact hv) (hf k hkn hc) (hzu k hkn hc) (by omega)
          have ek : kdR (fun u => Wd g n l u (some v)) (chB g v pa) (k + 1) = insR (Wd g n l k (some v)) (kdR (fun u => Wd g n l u (some v)) (chB g v pa) k) := if_pos hc
          have hl9 := hlen k (by omega)
          have hl10 := hlen (k + 1) (by omega)
          rw [ek, insR_len] at hl10
          have hkl1 : KL K1 (11 * dp) (kdR (fun u => Wd g n l u (some v)) (chB g v pa) k) := KL_ext _ (fun i i1 i2 => f1 i (by omega)) hkl
          have hwk : WK (Wd g n l k (some v)) := (Wd_ok l k (some v) (hf k hkn hc) (hzu k hkn hc)).1
          obtain ⟨K2, m2, f2⟩ := ih (k + 1) (insK (Wd g n l k (some v)) (11 * dp) (kdR (fun u => Wd g n l u (some v)) (chB g v pa) k) K1) (by omega) (by rw [ek]; exact insK_KL _ _ hkl1)
          rw [ek, insR_len] at m2
          refine ⟨K2, b_X10_wordOf_12 H (r_many X.k) (fun q => absurd q (nI_ge hkn (by omega))) (fun _ => b_X10_wordOf_21 H (r_at X.k hv) (r_has (by have := X.2.1 v; omega) (by omega)) (fun q => ?_) (fun _ => b_X10_wordOf_34 (fun _ => b_X10_wordOf_43 H (by rw [nI_1]; exact m1) (ins_loop X hwk _ K1 (hok k (by omega)).1 hkl1 (by omega) (b_X10_wordOf_127 ?_))) (fun q => ?_))), fun i hi => ?_⟩
          · rw [h01.mp q] at h1; cases h1
          · rw [nI_1]; exact m2
          · exact absurd ((ne_pa (by omega) hpa).mp q) h2
          · rw [f2 i hi, insK_ne _ _ _ (Or.inl hi), f1 i (by omega)]
        · have ek : kdR (fun u => Wd g n l u (some v)) (chB g v pa) (k + 1) = kdR (fun u => Wd g n l u (some v)) (chB g v pa) k := if_neg hc
          obtain ⟨K2, m2, f2⟩ := ih (k + 1) K (by omega) (by rw [ek]; exact hkl)
          rw [ek] at m2
          refine ⟨K2, b_X10_wordOf_12 H (r_many X.k) (fun q => absurd q (nI_ge hkn (by omega))) (fun _ => b_X10_wordOf_21 H (r_at X.k hv) (r_has (by have := X.2.1 v; omega) (by omega)) (fun q => b_X10_wordOf_127 ?_) (fun q => b_X10_wordOf_34 (fun q2 => ?_) (fun _ => b_X10_wordOf_40 (b_X10_wordOf_127 ?_)))), f2⟩
          · rw [nI_1]; exact m2
          · exact absurd (chB_of.mpr ⟨tb_of q, fun e => q2 ((ne_pa (by omega) hpa).mpr e)⟩) hc
          · rw [nI_1]; exact m2
    obtain ⟨K', m, f⟩ := loop n 0 K (by omega) trivial
    refine ⟨K', e_X10_wordOf (b_X10_wordOf_0 ?_), f⟩
    rw [e11]
    exact m
/-- the words that hang at a vertex, ten levels -/
def Rw (g : Nat → Nat) (n v : Nat) : Nat := Wd g n 10 v none
/-- what is so of a forest, for its words -/
def WOK (g : Nat → Nat) (n : Nat) : Prop := ∀ v, v < n → FT g n 10 v none ∧ zs g n 10 v none ≤ 10
theorem r_rootWord (X : VW c n g) (O : WOK g n) {v : Nat} (hv : v < n) {K : Nat → Nat} : ∃ K', MSE m_X10_rootWord (d + 14) [.ref 70, .int (nI v)] (hp (cK c K)) (some (.int (nI (Rw g n v)))) (hp (cK c K')) := by
  have hn := X.1
  obtain ⟨z, H⟩ := (X.k (K := K)).M
  obtain ⟨K', m, -⟩ := r_wordOf X 10 v none 0 K d (by omega) (fun p q => by cases q) (O v hv).1 (O v hv).2 (by decide)
  exact ⟨K', e_X10_rootWord (b_X10_rootWord_0 H m ⟨rfl, rfl⟩)⟩
theorem Rw_ok (O : WOK g n) {v : Nat} (hv : v < n) : WK (Rw g n v) ∧ bc 20 (Rw g n v) = zs g n 10 v none := Wd_ok 10 v none (O v hv).1 (O v hv).2
/-- the least word from the vertices of a set -/
def msU (cen : Nat) (W : Nat → Nat) : Nat → Nat
  | 0 => 0
  | k + 1 => if cen.testBit k = true then (if msU cen W k = 0 ∨ isl (W k) (msU cen W k) = true then W k else msU cen W k) else msU cen W k
theorem msU_WK {cen : Nat} {W : Nat → Nat} : ∀ k, (∀ v, v < k → WK (W v)) → msU cen W k = 0 ∨ WK (msU cen W k)
  | 0, _ => Or.inl rfl
  | k + 1, h => by
    have ih := msU_WK k (fun v hv => h v (by omega)) (cen := cen)
    unfold msU
    split
    · split
      · exact Or.inr (h k (by omega))
      · exact ih
    · exact ih
def Sw (g w : Nat → Nat) (n s : Nat) : Nat := msU (lbU s (mm g w n 1) n).2 (Rw g n) n
theorem MWt.k (Y : MWt c w) {K : Nat → Nat} : MWt (cK c K) w := ⟨Y.1, Y.2.choose, (up1_ne _ _ (by decide)).trans Y.2.choose_spec⟩
theorem WK.ne0 {x : Nat} (h : WK x) : x ≠ 0 := fun e => by
  have := h.1
  rw [e, bc_0] at this
  omega
theorem r_wordOfSet (X : VW c n g) (GK : GOK g n) (Y : MWt c w) (O : WOK g n) {s : Nat} (hs : s < 1024) {K : Nat → Nat} : ∃ K', MSE m_X10_wordOfSet (d + 15) [.ref 70, .int (nI s)] (hp (cK c K)) (some (.int (nI (Sw g w n s)))) (hp (cK c K')) := by
  have hn := X.1
  obtain ⟨z, H⟩ := (X.k (K := K)).M
  have hcen := (lbU_le (m := s) (e := mm g w n 1) (B := 990) (fun i => mm_le hn Y.1) n hn).2
  have key : ∀ j k K, k + j = n → ∃ K', a_X10_wordOfSet_12 (d + 15) 0 0 70 (nI (lbU s (mm g w n 1) n).2) (nI (msU (lbU s (mm g w n 1) n).2 (Rw g n) k)) (nI k) (hp (cK c K)) (rI (nI (Sw g w n s)) (hp (cK c K'))) := by
    intro j
    induction j with
    | zero =>
      intro k K hk
      have : k = n := by omega
      subst this
      obtain ⟨z, H⟩ := (X.k (K := K)).M
      exact ⟨K, b_X10_wordOfSet_12 H (r_many X.k) (fun _ => b_X10_wordOfSet_67 ⟨rfl, rfl⟩) (fun q => absurd (nI_le (Nat.le_refl k) (by omega)) q)⟩
    | succ j ih =>
      intro k K hk
      have hkn : k < n := by omega
      obtain ⟨z, H⟩ := (X.k (K := K)).M
      by_cases hb : (lbU s (mm g w n 1) n).2.testBit k = true
      · obtain ⟨K1, m1⟩ := r_rootWord (d := d) X O hkn (K := K)
        obtain ⟨K2, m2⟩ := ih (k + 1) K1 (by omega)
        have hW := (Rw_ok O hkn).1
        have e : msU (lbU s (mm g w n 1) n).2 (Rw g n) (k + 1) = if msU (lbU s (mm g w n 1) n).2 (Rw g n) k = 0 ∨ isl (Rw g n k) (msU (lbU s (mm g w n 1) n).2 (Rw g n) k) = true then Rw g n k else msU (lbU s (mm g w n 1) n).2 (Rw g n) k := if_pos hb
        have hM := msU_WK (cen := (lbU s (mm g w n 1) n).2) (W := Rw g n) k (fun v hv => (Rw_ok O (by omega)).1)
        obtain ⟨M, hMe⟩ : ∃ M, M = msU (lbU s (mm g w n 1) n).2 (Rw g n) k := ⟨_, rfl⟩
        rw [← hMe] at hM e ⊢
        rw [e] at m2
        refine ⟨K2, b_X10_wordOfSet_12 H (r_many X.k) (fun q => absurd q (nI_ge hkn (by omega))) (fun _ => b_X10_wordOfSet_21 (r_has (by omega) (by omega)) (fun _ => b_X10_wordOfSet_33 H m1 (fun q => b_X10_wordOfSet_54 (b_X10_wordOfSet_60 (b_X10_wordOfSet_61 ?_))) (fun q => ?_)) (fun q => ?_))⟩
        · have h0 : M = 0 := by
            rcases hM with h | h
            · exact h
            · exact (i_eq0 (by have := h.lt; omega)).mp q
          rw [if_pos (Or.inl h0)] at m2
          rw [nI_1]; exact m2
        · have h0 : M ≠ 0 := fun e => q (by rw [e]; rfl)
          have hMW : WK M := hM.resolve_left h0
          refine b_X10_wordOfSet_45 (r_isLess hW hMW) (fun q2 => b_X10_wordOfSet_59 (b_X10_wordOfSet_60 (b_X10_wordOfSet_61 ?_))) (fun q2 => b_X10_wordOfSet_54 (b_X10_wordOfSet_60 (b_X10_wordOfSet_61 ?_)))
          · rw [if_neg (by rw [h01.mp q2]; intro h; rcases h with h | h; exact h0 h; cases h)] at m2
            rw [nI_1]; exact m2
          · rw [if_pos (Or.inr (tb_of q2))] at m2
            rw [nI_1]; exact m2
        · rw [h01.mp q] at hb; cases hb
      · obtain ⟨K2, m2⟩ := ih (k + 1) K (by omega)
        have e : msU (lbU s (mm g w n 1) n).2 (Rw g n) (k + 1) = msU (lbU s (mm g w n 1) n).2 (Rw g n) k := if_neg hb
        rw [e] at m2
        refine ⟨K2, b_X10_wordOfSet_12 H (r_many X.k) (fun q => absurd q (nI_ge hkn (by omega))) (fun _ => b_X10_wordOfSet_21 (r_has (by omega) (by omega)) (fun q => absurd (tb_of q) hb) (fun q => b_X10_wordOfSet_30 (b_X10_wordOfSet_61 ?_)))⟩
        rw [nI_1]; exact m2
  obtain ⟨K', m⟩ := key n 0 K (by omega)
  exact ⟨K', e_X10_wordOfSet (b_X10_wordOfSet_0 H (r_leastOf (k0 := 1) X.k GK Y.k hs (by decide)) m)⟩
end
