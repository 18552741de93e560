/-! whole numbers below 2^31 as ints; sets as numbers by their bits -/
theorem i_and (a b : Nat) : nI a &&& nI b = nI (a &&& b) := by
  apply Int32.toBitVec_inj.1
  show BitVec.ofNat 32 a &&& BitVec.ofNat 32 b = BitVec.ofNat 32 (a &&& b)
  apply BitVec.eq_of_getLsbD_eq
  intro i hi
  simp [hi]
theorem i_or (a b : Nat) : nI a ||| nI b = nI (a ||| b) := by
  apply Int32.toBitVec_inj.1
  show BitVec.ofNat 32 a ||| BitVec.ofNat 32 b = BitVec.ofNat 32 (a ||| b)
  apply BitVec.eq_of_getLsbD_eq
  intro i hi
  simp [hi]
theorem i_sl : ∀ n, n < 32 → ((nI n &&& 31).toBitVec.smod 32).toNat = n := by decide +kernel
theorem i_shr {s v : Nat} (hs : s < 2147483648) (hv : v < 32) : nI s >>> (nI v &&& 31) = nI (s / 2 ^ v) := pk_shrN hs _ v (i_sl v hv)
theorem i_pow {v : Nat} (hv : v < 31) : 2 ^ v < 2147483648 := Nat.pow_lt_pow_right (by decide) hv
theorem i_shl1 {v : Nat} (hv : v < 31) : (1 : Int32) <<< (nI v &&& 31) = nI (2 ^ v) := by
  have h1 := i_pow hv
  have h := pk_shlN (n := 1) (nI v &&& 31) v (i_sl v (by omega)) (by rw [Nat.one_mul]; omega)
  rw [Nat.one_mul] at h
  exact h
theorem i_and1 {n : Nat} (h : n < 2147483648) : nI n &&& 1 = nI (n % 2) := pk_andN (by omega) 1 (by decide)
theorem i_eq {a b : Nat} (ha : a < 2147483648) (hb : b < 2147483648) : nI a = nI b ↔ a = b := nI_eq ha hb
theorem i_eq0 {a : Nat} (ha : a < 2147483648) : nI a = 0 ↔ a = 0 := nI_eq ha (by decide : (0 : Nat) < 2 ^ 31)
theorem i_bit {s v : Nat} (hs : s < 2147483648) (hv : v < 31) : (nI s >>> (nI v &&& 31)) &&& 1 = nI (if s.testBit v then 1 else 0) := by
  rw [i_shr hs (by omega), i_and1 (Nat.lt_of_le_of_lt (Nat.div_le_self _ _) hs), Nat.testBit_eq_decide_div_mod_eq]
  congr 1
  by_cases h : s / 2 ^ v % 2 = 1
  · simp [h]
  · have : s / 2 ^ v % 2 = 0 := by omega
    simp [this]
theorem i_bit0 {s v : Nat} (hs : s < 2147483648) (hv : v < 31) : (nI s >>> (nI v &&& 31)) &&& 1 = 0 ↔ s.testBit v = false := by
  rw [i_bit hs hv]
  cases s.testBit v <;> simp <;> decide
/-- a set without another one -/
def df (a b : Nat) : Nat := a ^^^ (a &&& b)
theorem df_bit (a b j : Nat) : (df a b).testBit j = (a.testBit j && !b.testBit j) := by
  unfold df
  rw [Nat.testBit_xor, Nat.testBit_and]
  cases a.testBit j <;> cases b.testBit j <;> rfl
theorem df_lt {a b k : Nat} (h : a < 2 ^ k) : df a b < 2 ^ k := Nat.xor_lt_two_pow h (Nat.lt_of_le_of_lt Nat.and_le_left h)
theorem i_df (a b : Nat) : nI a &&& (nI b ^^^ (-1)) = nI (df a b) := by
  apply Int32.toBitVec_inj.1
  show BitVec.ofNat 32 a &&& (BitVec.ofNat 32 b ^^^ (-1 : Int32).toBitVec) = BitVec.ofNat 32 (df a b)
  have e : (-1 : Int32).toBitVec = BitVec.allOnes 32 := by decide
  rw [e]
  apply BitVec.eq_of_getLsbD_eq
  intro i hi
  simp only [BitVec.getLsbD_and, BitVec.getLsbD_xor, BitVec.getLsbD_allOnes, BitVec.getLsbD_ofNat, hi, decide_true, Bool.true_and, df_bit, Bool.xor_true]
theorem pow_bit (v j : Nat) : (2 ^ v).testBit j = decide (v = j) := Nat.testBit_two_pow
theorem set_ext {a b : Nat} (h : ∀ j, a.testBit j = b.testBit j) : a = b := Nat.eq_of_testBit_eq h
theorem bit_lt {s k j : Nat} (h : s < 2 ^ k) (hb : s.testBit j = true) : j < k := by
  rcases Nat.lt_or_ge j k with q | q
  · exact q
  · rw [Nat.testBit_lt_two_pow (Nat.lt_of_lt_of_le h (Nat.pow_le_pow_right (by decide) q))] at hb
    cases hb
theorem lt_of_bits {s k : Nat} (h : ∀ j, s.testBit j = true → j < k) : s < 2 ^ k := by
  apply Nat.lt_pow_two_of_testBit
  intro i hi
  cases hb : s.testBit i with
  | false => rfl
  | true => exact absurd (h i hb) (by omega)
/-- upward loops -/
theorem up_ind {T : Nat → Prop} {n : Nat} (hs : ∀ k, k < n → T (k + 1) → T k) (hn : T n) : ∀ j k, k + j = n → T k
  | 0, k, h => by have : k = n := by omega
                  rw [this]; exact hn
  | j + 1, k, h => hs k (by omega) (up_ind hs hn j (k + 1) (by omega))
theorem up_all {T : Nat → Prop} {n : Nat} (hs : ∀ k, k < n → T (k + 1) → T k) (hn : T n) : T 0 := up_ind hs hn n 0 (by omega)
theorem up_from {T : Nat → Prop} {n a : Nat} (ha : a ≤ n) (hs : ∀ k, a ≤ k → k < n → T (k + 1) → T k) (hn : T n) : T a :=
  up_ind (T := fun k => a ≤ k → T k) (fun k hk h h2 => hs k h2 hk (h (by omega))) (fun _ => hn) (n - a) a (by omega) (Nat.le_refl _)
/-! rows of ints -/
def ar (n : Nat) (g : Nat → Int32) : List Value := (List.range n).map (fun i => .int (g i))
theorem ar_len (n : Nat) (g : Nat → Int32) : (ar n g).length = n := by unfold ar; rw [List.length_map, List.length_range]
theorem ar_at {n i : Nat} (g : Nat → Int32) (h : i < n) : (ar n g)[i]? = some (.int (g i)) := by
  unfold ar
  rw [List.getElem?_map, List.getElem?_range h]; rfl
theorem ar_out {n i : Nat} (g : Nat → Int32) (h : n ≤ i) : (ar n g)[i]? = none := List.getElem?_eq_none (by rw [ar_len]; exact h)
def up1 {α : Type} (g : Nat → α) (i : Nat) (x : α) : Nat → α := fun j => if j = i then x else g j
theorem up1_same {α : Type} (g : Nat → α) (i : Nat) (x : α) : up1 g i x i = x := if_pos rfl
theorem up1_ne {α : Type} (g : Nat → α) {i j : Nat} (x : α) (h : j ≠ i) : up1 g i x j = g j := if_neg h
theorem ar_ext {n : Nat} {f g : Nat → Int32} (h : ∀ i, i < n → f i = g i) : ar n f = ar n g := by
  unfold ar
  apply List.map_congr_left
  intro i hi
  rw [h i (List.mem_range.mp hi)]
theorem ar_set {n : Nat} (g : Nat → Int32) (i : Nat) (x : Int32) : (ar n g).set i (.int x) = ar n (up1 g i x) := by
  apply List.ext_getElem?
  intro j
  rw [List.getElem?_set, ar_len]
  by_cases hj : j < n
  · rw [ar_at _ hj, ar_at _ hj]
    by_cases hij : i = j
    · subst hij
      rw [if_pos rfl, if_pos hj, up1_same]
    · rw [if_neg hij, up1_ne _ _ (fun q => hij q.symm)]
  · rw [ar_out _ (Nat.le_of_not_lt hj), ar_out _ (Nat.le_of_not_lt hj)]
    by_cases hij : i = j
    · rw [if_pos hij]; rw [if_neg (by omega)]
    · rw [if_neg hij]
theorem ar_int {n : Nat} (g : Nat → Int32) : ∀ v ∈ ar n g, ∃ x, v = .int x := fun v hv => by
  obtain ⟨i, -, rfl⟩ := List.mem_map.mp hv
  exact ⟨_, rfl⟩
theorem ar_cpy {n m sp dp k : Nat} (f g : Nat → Int32) (h : sp + k ≤ m) : ab_cpyL (ar m f) (ar n g) sp dp k = ar n (fun j => if dp ≤ j ∧ j < dp + k then f (sp + (j - dp)) else g j) := by
  unfold ab_cpyL
  rw [ar_len]
  unfold ar
  apply List.map_congr_left
  intro j hj
  have hj' := List.mem_range.mp hj
  split
  · rename_i q
    have e := ar_at f (show sp + (j - dp) < m by omega)
    unfold ar at e
    rw [List.getD_eq_getElem?_getD, e]
    show Value.int _ = Value.int (if dp ≤ j ∧ j < dp + k then f (sp + (j - dp)) else g j)
    rw [if_pos q]
  · rename_i q
    have e := ar_at g hj'
    unfold ar at e
    rw [List.getD_eq_getElem?_getD, e]
    show Value.int _ = Value.int (if dp ≤ j ∧ j < dp + k then f (sp + (j - dp)) else g j)
    rw [if_neg q]
theorem ar_rep (n : Nat) (x : Int32) : List.replicate n (.int x) = ar n (fun _ => x) := by
  apply List.ext_getElem?
  intro j
  by_cases hj : j < n
  · rw [ar_at _ hj, List.getElem?_replicate, if_pos hj]
  · rw [ar_out _ (Nat.le_of_not_lt hj), List.getElem?_replicate, if_neg hj]
theorem hset_ne {h : ab_H} {i j : Nat} {c : Nat × List Value} (hn : i ≠ j) : (h.set i c)[j]? = h[j]? := List.getElem?_set_ne hn
theorem hset_eq {h : ab_H} {i : Nat} {c c0 : Nat × List Value} (h0 : h[i]? = some c0) : (h.set i c)[i]? = some c := List.getElem?_set_self (List.getElem?_eq_some_iff.mp h0).1
theorem hset_hset {h : ab_H} {i : Nat} {c c' : Nat × List Value} : (h.set i c).set i c' = h.set i c' := List.set_set ..
theorem hset_id {h : ab_H} {i : Nat} {c : Nat × List Value} (h0 : h[i]? = some c) : h.set i c = h := by
  apply List.ext_getElem?
  intro j
  by_cases hij : i = j
  · subst hij; rw [hset_eq h0, h0]
  · rw [hset_ne hij]
theorem hset_comm {h : ab_H} {i j : Nat} {c c' : Nat × List Value} (hn : i ≠ j) : (h.set i c).set j c' = (h.set j c').set i c := List.set_comm _ _ hn
theorem cl_nI {n : Nat} (h : n < 2147483648) : (nI n).toNatClampNeg = n := nI_clamp h
theorem bl_ok (b : Bool) : narrow .boolean (.int (nI (if b = true then 1 else 0))) = .int (nI (if b = true then 1 else 0)) := by cases b <;> decide
theorem nI1 : nI 1 = 1 := by decide
theorem nIm1 : (-1 : Int32) = nI 4294967295 := by decide
