/-! words: the class's are the reference's, laid at the left -/
def al20 (x : Nat) : Nat := x * 2 ^ (20 - 2 * bc 20 x)
def bts (s u : Nat) : Bool := s.testBit u
section
variable {g : Nat → Nat} {a b u v w x y n r p q k i j l m s : Nat} {pa : Option Nat}
theorem isl_al : isl x y = decide (al20 x < al20 y) := rfl
theorem al_lt2 (h : WK x) : al20 x < 1048576 := h.al
theorem al_inj (hx : WK x) (hy : WK y) (ox : x % 2 = 1) (oy : y % 2 = 1) (h : al20 x = al20 y) : x = y := by
  have key : ∀ a b i j : Nat, a % 2 = 1 → b % 2 = 1 → i ≤ j → a * 2 ^ i = b * 2 ^ j → a = b := by
    intro a b i j ha hb hij h
    obtain ⟨d, rfl⟩ : ∃ d, j = i + d := ⟨j - i, by omega⟩
    rw [Nat.pow_add, ← Nat.mul_assoc, Nat.mul_right_comm] at h
    have h := Nat.eq_of_mul_eq_mul_right (Nat.two_pow_pos i) h
    cases d with
    | zero => rw [Nat.pow_zero, Nat.mul_one] at h; exact h
    | succ d =>
      rw [Nat.pow_succ, ← Nat.mul_assoc] at h
      omega
  unfold al20 at h
  rcases Nat.le_total (20 - 2 * bc 20 x) (20 - 2 * bc 20 y) with q | q
  · exact key x y _ _ ox oy q h
  · exact (key y x _ _ oy ox q h.symm).symm
theorem al_pos (h : WK x) : 0 < al20 x := Nat.mul_pos (Nat.pos_of_ne_zero h.ne0) (Nat.two_pow_pos _)
/-! the least of a set -/
theorem lwU_ok {f : Nat → Int32} {a : Nat → Nat} (hf : ∀ u, u < 10 → s.testBit u = true → f u = nI (a u) ∧ a u < 2147483648) : ∀ k, k ≤ 10 → ((lwU f s k).2 = false ∧ ∀ u, u < k → ¬ s.testBit u = true) ∨ ((lwU f s k).2 = true ∧ (lwU f s k).1 < k ∧ s.testBit (lwU f s k).1 = true ∧ ∀ u, u < k → s.testBit u = true → a (lwU f s k).1 ≤ a u ∧ (u < (lwU f s k).1 → a (lwU f s k).1 < a u))
  | 0, _ => Or.inl ⟨rfl, fun u hu => absurd hu (Nat.not_lt_zero u)⟩
  | k + 1, hk => by
    have ih := lwU_ok hf k (by omega)
    have e : lwU f s (k + 1) = if s.testBit k = true then (if (lwU f s k).2 = false then (k, true) else if f (lwU f s k).1 ≤ f k then lwU f s k else (k, true)) else lwU f s k := rfl
    rw [e]
    by_cases hb : s.testBit k = true
    · rw [if_pos hb]
      rcases ih with ⟨a1, a2⟩ | ⟨a1, a2, a3, a4⟩
      · rw [if_pos a1]
        refine Or.inr ⟨rfl, Nat.lt_succ_self k, hb, fun u hu hbu => ?_⟩
        have : u = k := by
          rcases Nat.lt_succ_iff_lt_or_eq.mp hu with q | q
          · exact absurd hbu (a2 u q)
          · exact q
        subst this
        exact ⟨Nat.le_refl _, fun q => absurd q (Nat.lt_irrefl _)⟩
      · rw [if_neg (by rw [a1]; decide)]
        obtain ⟨f1, l1⟩ := hf _ (by omega) a3
        obtain ⟨f2, l2⟩ := hf k (by omega) hb
        rw [f1, f2]
        by_cases hle : a (lwU f s k).1 ≤ a k
        · rw [if_pos (nI_le hle l2)]
          refine Or.inr ⟨a1, by omega, a3, fun u hu hbu => ?_⟩
          rcases Nat.lt_succ_iff_lt_or_eq.mp hu with q | q
          · exact a4 u q hbu
          · subst q
            exact ⟨hle, fun q => by omega⟩
        · rw [if_neg (fun q => hle ((nI_leI l1 l2).mp q))]
          refine Or.inr ⟨rfl, Nat.lt_succ_self k, hb, fun u hu hbu => ?_⟩
          show a k ≤ a u ∧ (u < k → a k < a u)
          rcases Nat.lt_succ_iff_lt_or_eq.mp hu with q | q
          · have := (a4 u q hbu).1
            exact ⟨by omega, fun _ => by omega⟩
          · subst q
            exact ⟨Nat.le_refl _, fun q => absurd q (Nat.lt_irrefl _)⟩
    · rw [if_neg hb]
      rcases ih with ⟨a1, a2⟩ | ⟨a1, a2, a3, a4⟩
      · refine Or.inl ⟨a1, fun u hu => ?_⟩
        rcases Nat.lt_succ_iff_lt_or_eq.mp hu with q | q
        · exact a2 u q
        · rw [q]; exact hb
      · refine Or.inr ⟨a1, by omega, a3, fun u hu hbu => ?_⟩
        rcases Nat.lt_succ_iff_lt_or_eq.mp hu with q | q
        · exact a4 u q hbu
        · rw [q] at hbu; exact absurd hbu hb
/-- what the first of all is -/
def fst' (a : Nat → Nat) (s m : Nat) : Prop := s.testBit m = true ∧ ∀ u, s.testBit u = true → a m ≤ a u ∧ (u < m → a m < a u)
theorem lw_ok {f : Nat → Int32} {a : Nat → Nat} (hs : s < 1024) (h0 : s ≠ 0) (hf : ∀ u, u < 10 → s.testBit u = true → f u = nI (a u) ∧ a u < 2147483648) : fst' a s (lw f s) := by
  rcases lwU_ok hf 10 (Nat.le_refl _) with ⟨a1, a2⟩ | ⟨a1, a2, a3, a4⟩
  · exfalso
    apply h0
    apply set_ext
    intro j
    rw [Nat.zero_testBit]
    cases hb : s.testBit j
    · rfl
    · exact absurd hb (a2 j (bit_lt (k := 10) hs hb))
  · exact ⟨a3, fun u hu => a4 u (bit_lt (k := 10) hs hu) hu⟩
/-! one child less -/
theorem df_bts (u : Nat) : bts (df s (2 ^ m)) u = (bts s u && decide (u ≠ m)) := by
  unfold bts
  rw [df_bit, pow_bit]
  by_cases e : m = u
  · subst e; simp
  · have : u ≠ m := fun h => e h.symm
    simp [e, this]
theorem zsU_rm {z : Nat → Nat} (hb : bts s m = true) : ∀ k, zsU z (bts s) k = zsU z (bts (df s (2 ^ m))) k + if m < k then z m else 0
  | 0 => by rw [if_neg (Nat.not_lt_zero m)]; rfl
  | k + 1 => by
    have ih := zsU_rm (z := z) hb k
    have e1 : zsU z (bts s) (k + 1) = if bts s k = true then zsU z (bts s) k + z k else zsU z (bts s) k := rfl
    have e2 : zsU z (bts (df s (2 ^ m))) (k + 1) = if bts (df s (2 ^ m)) k = true then zsU z (bts (df s (2 ^ m))) k + z k else zsU z (bts (df s (2 ^ m))) k := rfl
    rw [e1, e2, df_bts]
    by_cases e : k = m
    · subst e
      rw [if_neg (Nat.lt_irrefl k)] at ih
      rw [if_pos hb, if_neg (by simp), if_pos (Nat.lt_succ_self k), ih, Nat.add_zero]
    · have ek : (bts s k && decide (k ≠ m)) = bts s k := by simp [e]
      rw [ek, ih]
      by_cases h2 : m < k
      · rw [if_pos h2, if_pos (show m < k + 1 by omega)]
        split <;> omega
      · rw [if_neg h2, if_neg (show ¬ m < k + 1 by omega)]
        split <;> omega
theorem mcU_rm {z : Nat → Nat} (hb : bts s m = true) : ∀ k, mcU z (bts s) k = max (mcU z (bts (df s (2 ^ m))) k) (if m < k then z m else 0)
  | 0 => by rw [if_neg (Nat.not_lt_zero m)]; rfl
  | k + 1 => by
    have ih := mcU_rm (z := z) hb k
    have e1 : mcU z (bts s) (k + 1) = if bts s k = true then max (mcU z (bts s) k) (z k) else mcU z (bts s) k := rfl
    have e2 : mcU z (bts (df s (2 ^ m))) (k + 1) = if bts (df s (2 ^ m)) k = true then max (mcU z (bts (df s (2 ^ m))) k) (z k) else mcU z (bts (df s (2 ^ m))) k := rfl
    rw [e1, e2, df_bts]
    by_cases e : k = m
    · subst e
      rw [if_neg (Nat.lt_irrefl k)] at ih
      rw [if_pos hb, if_neg (by simp), if_pos (Nat.lt_succ_self k), ih, Nat.max_zero]
    · have ek : (bts s k && decide (k ≠ m)) = bts s k := by simp [e]
      rw [ek, ih]
      by_cases h2 : m < k
      · rw [if_pos h2, if_pos (show m < k + 1 by omega)]
        split <;> omega
      · rw [if_neg h2, if_neg (show ¬ m < k + 1 by omega)]
        split <;> omega
theorem tnU_rm {t lk : Nat → Nat} (hb : bts s m = true) : ∀ k, tnU t lk (bts s) k = (if m < k then lk m * t m else 1) * tnU t lk (bts (df s (2 ^ m))) k
  | 0 => by rw [if_neg (Nat.not_lt_zero m)]; rfl
  | k + 1 => by
    have ih := tnU_rm (t := t) (lk := lk) hb k
    have e1 : tnU t lk (bts s) (k + 1) = if bts s k = true then tnU t lk (bts s) k * (lk k * t k) else tnU t lk (bts s) k := rfl
    have e2 : tnU t lk (bts (df s (2 ^ m))) (k + 1) = if bts (df s (2 ^ m)) k = true then tnU t lk (bts (df s (2 ^ m))) k * (lk k * t k) else tnU t lk (bts (df s (2 ^ m))) k := rfl
    rw [e1, e2, df_bts]
    by_cases e : k = m
    · subst e
      rw [if_neg (Nat.lt_irrefl k), Nat.one_mul] at ih
      rw [if_pos hb, if_pos (show k < k + 1 by omega), if_neg (show ¬ (bts s k && decide (k ≠ k)) = true by simp), ih, Nat.mul_comm]
    · have ek : (bts s k && decide (k ≠ m)) = bts s k := by simp [e]
      rw [ek, ih]
      by_cases h2 : m < k
      · rw [if_pos h2, if_pos (show m < k + 1 by omega)]
        split
        · rw [Nat.mul_assoc]
        · rfl
      · rw [if_neg h2, if_neg (show ¬ m < k + 1 by omega), Nat.one_mul, Nat.one_mul]
theorem insR_last (l : List Nat) (h : ∀ y ∈ l, isl x y = true) : insR x l = l ++ [x] := by
  induction l with
  | nil => rfl
  | cons y l ih =>
    rw [insR_c1 (h y List.mem_cons_self), ih (fun z hz => h z (List.mem_cons_of_mem _ hz))]; rfl
theorem insR_app (l : List Nat) (h : isl x w = false) : insR x (l ++ [w]) = insR x l ++ [w] := by
  induction l with
  | nil =>
    show insR x [w] = [x] ++ [w]
    rw [insR_c0 h]; rfl
  | cons y l ih =>
    show insR x (y :: (l ++ [w])) = _
    cases q : isl x y with
    | true => rw [insR_c1 q, insR_c1 q, ih]; rfl
    | false => rw [insR_c0 q, insR_c0 q]; rfl
theorem kdR_s {rec : Nat → Nat} {ch : Nat → Bool} : kdR rec ch (k + 1) = if ch k = true then insR (rec k) (kdR rec ch k) else kdR rec ch k := rfl
theorem kdR_mem {rec : Nat → Nat} {ch : Nat → Bool} : ∀ k, y ∈ kdR rec ch k → ∃ u, u < k ∧ ch u = true ∧ y = rec u
  | 0, h => (List.not_mem_nil h).elim
  | k + 1, h => by
    rw [kdR_s] at h
    by_cases hc : ch k = true
    · rw [if_pos hc] at h
      rcases insR_mem _ h with e | h
      · exact ⟨k, by omega, hc, e⟩
      · obtain ⟨u, h1, h2⟩ := kdR_mem k h
        exact ⟨u, by omega, h2⟩
    · rw [if_neg hc] at h
      obtain ⟨u, h1, h2⟩ := kdR_mem k h
      exact ⟨u, by omega, h2⟩
theorem kd_rm {rec : Nat → Nat} (hf : fst' (fun u => al20 (rec u)) s m) : ∀ k, kdR rec (bts s) k = kdR rec (bts (df s (2 ^ m))) k ++ if m < k then [rec m] else []
  | 0 => by rw [if_neg (Nat.not_lt_zero m)]; rfl
  | k + 1 => by
    have ih := kd_rm hf k
    rw [kdR_s, kdR_s, df_bts]
    by_cases e : k = m
    · subst e
      rw [if_neg (Nat.lt_irrefl k), List.append_nil] at ih
      rw [if_pos (show bts s k = true from hf.1), if_neg (show ¬ (bts s k && decide (k ≠ k)) = true by simp), if_pos (show k < k + 1 by omega), ← ih]
      refine insR_last _ (fun y hy => ?_)
      obtain ⟨u, h1, h2, h3⟩ := kdR_mem k hy
      rw [h3, isl_al]
      exact decide_eq_true ((hf.2 u h2).2 h1)
    · have ek : (bts s k && decide (k ≠ m)) = bts s k := by simp [e]
      rw [ek, ih]
      by_cases h2 : m < k
      · rw [if_pos h2, if_pos (show m < k + 1 by omega)]
        by_cases hc : bts s k = true
        · rw [if_pos hc, if_pos hc]
          refine insR_app _ ?_
          rw [isl_al]
          have : al20 (rec m) ≤ al20 (rec k) := (hf.2 k hc).1
          exact decide_eq_false (by omega)
        · rw [if_neg hc, if_neg hc]
      · rw [if_neg h2, if_neg (show ¬ m < k + 1 by omega), List.append_nil, List.append_nil]
theorem catR_snoc (l : List Nat) : catR (l ++ [w]) = w * 2 ^ (2 * sumR l) + catR l := by
  induction l with
  | nil =>
    show catR ([] : List Nat) * _ + w = w * 2 ^ (2 * 0) + 0
    rw [show catR ([] : List Nat) = 0 from rfl, Nat.zero_mul, Nat.mul_zero, Nat.pow_zero, Nat.mul_one]; omega
  | cons x l ih =>
    show catR (x :: (l ++ [w])) = w * 2 ^ (2 * sumR (x :: l)) + catR (x :: l)
    rw [catR_c, catR_c, sumR_c, ih, Nat.add_mul, Nat.mul_add, Nat.pow_add, Nat.mul_assoc]
    omega
theorem lkU_same {W : Nat → Nat} {ch : Nat → Bool} : ∀ d, (∀ u, k ≤ u → u < k + d → ch u = true → W u ≠ x) → lkU W ch x (k + d) = lkU W ch x k
  | 0, _ => rfl
  | d + 1, h => by
    have e : lkU W ch x (k + d + 1) = if ch (k + d) = true ∧ W (k + d) = x then lkU W ch x (k + d) + 1 else lkU W ch x (k + d) := rfl
    show lkU W ch x (k + d + 1) = _
    rw [e, if_neg (fun q => h (k + d) (by omega) (by omega) q.1 q.2)]
    exact lkU_same d (fun u h1 h2 => h u h1 (by omega))
theorem lkU_0 {W : Nat → Nat} {ch : Nat → Bool} (h : ∀ u, u < k → ch u = true → W u ≠ x) : lkU W ch x k = 1 := by
  have := lkU_same (W := W) (ch := ch) (x := x) (k := 0) k (fun u _ h2 => h u (by omega))
  rw [Nat.zero_add] at this
  exact this
theorem lkU_1 {W : Nat → Nat} {ch : Nat → Bool} (hik : i < k) (hc : ch i = true) (hW : W i = x) (h : ∀ u, i < u → u < k → ch u = true → W u ≠ x) : lkU W ch x k = lkU W ch x i + 1 := by
  have := lkU_same (W := W) (ch := ch) (x := x) (k := i + 1) (k - (i + 1)) (fun u h1 h2 => h u (by omega) (by omega))
  rw [show i + 1 + (k - (i + 1)) = k by omega] at this
  rw [this]
  exact if_pos ⟨hc, hW⟩
end
