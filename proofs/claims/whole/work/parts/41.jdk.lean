/-! the JDK's own small methods -/
def ab_bc (l0 : Int32) : Int32 := (((((((l0 - (((l0.toUInt32 >>> ((1 : Int32).toUInt32 &&& Int32.toUInt32 31)).toInt32) &&& 1431655765)) &&& 858993459) + ((((l0 - (((l0.toUInt32 >>> ((1 : Int32).toUInt32 &&& Int32.toUInt32 31)).toInt32) &&& 1431655765)).toUInt32 >>> ((2 : Int32).toUInt32 &&& Int32.toUInt32 31)).toInt32) &&& 858993459)) + (((((l0 - (((l0.toUInt32 >>> ((1 : Int32).toUInt32 &&& Int32.toUInt32 31)).toInt32) &&& 1431655765)) &&& 858993459) + ((((l0 - (((l0.toUInt32 >>> ((1 : Int32).toUInt32 &&& Int32.toUInt32 31)).toInt32) &&& 1431655765)).toUInt32 >>> ((2 : Int32).toUInt32 &&& Int32.toUInt32 31)).toInt32) &&& 858993459)).toUInt32 >>> ((4 : Int32).toUInt32 &&& Int32.toUInt32 31)).toInt32)) &&& 252645135) + (((((((l0 - (((l0.toUInt32 >>> ((1 : Int32).toUInt32 &&& Int32.toUInt32 31)).toInt32) &&& 1431655765)) &&& 858993459) + ((((l0 - (((l0.toUInt32 >>> ((1 : Int32).toUInt32 &&& Int32.toUInt32 31)).toInt32) &&& 1431655765)).toUInt32 >>> ((2 : Int32).toUInt32 &&& Int32.toUInt32 31)).toInt32) &&& 858993459)) + (((((l0 - (((l0.toUInt32 >>> ((1 : Int32).toUInt32 &&& Int32.toUInt32 31)).toInt32) &&& 1431655765)) &&& 858993459) + ((((l0 - (((l0.toUInt32 >>> ((1 : Int32).toUInt32 &&& Int32.toUInt32 31)).toInt32) &&& 1431655765)).toUInt32 >>> ((2 : Int32).toUInt32 &&& Int32.toUInt32 31)).toInt32) &&& 858993459)).toUInt32 >>> ((4 : Int32).toUInt32 &&& Int32.toUInt32 31)).toInt32)) &&& 252645135).toUInt32 >>> ((8 : Int32).toUInt32 &&& Int32.toUInt32 31)).toInt32)) + ((((((((l0 - (((l0.toUInt32 >>> ((1 : Int32).toUInt32 &&& Int32.toUInt32 31)).toInt32) &&& 1431655765)) &&& 858993459) + ((((l0 - (((l0.toUInt32 >>> ((1 : Int32).toUInt32 &&& Int32.toUInt32 31)).toInt32) &&& 1431655765)).toUInt32 >>> ((2 : Int32).toUInt32 &&& Int32.toUInt32 31)).toInt32) &&& 858993459)) + (((((l0 - (((l0.toUInt32 >>> ((1 : Int32).toUInt32 &&& Int32.toUInt32 31)).toInt32) &&& 1431655765)) &&& 858993459) + ((((l0 - (((l0.toUInt32 >>> ((1 : Int32).toUInt32 &&& Int32.toUInt32 31)).toInt32) &&& 1431655765)).toUInt32 >>> ((2 : Int32).toUInt32 &&& Int32.toUInt32 31)).toInt32) &&& 858993459)).toUInt32 >>> ((4 : Int32).toUInt32 &&& Int32.toUInt32 31)).toInt32)) &&& 252645135) + (((((((l0 - (((l0.toUInt32 >>> ((1 : Int32).toUInt32 &&& Int32.toUInt32 31)).toInt32) &&& 1431655765)) &&& 858993459) + ((((l0 - (((l0.toUInt32 >>> ((1 : Int32).toUInt32 &&& Int32.toUInt32 31)).toInt32) &&& 1431655765)).toUInt32 >>> ((2 : Int32).toUInt32 &&& Int32.toUInt32 31)).toInt32) &&& 858993459)) + (((((l0 - (((l0.toUInt32 >>> ((1 : Int32).toUInt32 &&& Int32.toUInt32 31)).toInt32) &&& 1431655765)) &&& 858993459) + ((((l0 - (((l0.toUInt32 >>> ((1 : Int32).toUInt32 &&& Int32.toUInt32 31)).toInt32) &&& 1431655765)).toUInt32 >>> ((2 : Int32).toUInt32 &&& Int32.toUInt32 31)).toInt32) &&& 858993459)).toUInt32 >>> ((4 : Int32).toUInt32 &&& Int32.toUInt32 31)).toInt32)) &&& 252645135).toUInt32 >>> ((8 : Int32).toUInt32 &&& Int32.toUInt32 31)).toInt32)).toUInt32 >>> ((16 : Int32).toUInt32 &&& Int32.toUInt32 31)).toInt32)) &&& 63
/-- how many vertices a set has -/
def pc (s : Nat) : Nat := (List.range 10).countP (fun i => s.testBit i)
/-- its least vertex, 32 of none -/
def lz (s : Nat) : Nat := ((List.range 10).find? (fun i => s.testBit i)).getD 32
set_option maxRecDepth 100000 in
theorem pc_bc : ∀ s, s < 1024 → ab_bc (nI s) = nI (pc s) := by decide +kernel
theorem s_bitCount {d : Nat} {h : ab_H} {s : Nat} (hs : s < 1024) : MSE m_J6_bitCount_0f7a4 d [.int (nI s)] h (some (.int (nI (pc s)))) h :=
  e_J6_bitCount_0f7a4 (b_J6_bitCount_0f7a4_0 ⟨by rw [← pc_bc s hs]; rfl, rfl⟩)
theorem s_max {d : Nat} {h : ab_H} (x y : Int32) : MSE m_J9_max_7cf53 d [.int x, .int y] h (some (.int (if x < y then y else x))) h :=
  e_J9_max_7cf53 (b_J9_max_7cf53_0 (fun q => b_J9_max_7cf53_9 (b_J9_max_7cf53_10 ⟨by rw [if_pos q], rfl⟩)) (fun q => b_J9_max_7cf53_5 (b_J9_max_7cf53_10 ⟨by rw [if_neg q], rfl⟩)))
theorem s_min {d : Nat} {h : ab_H} (x y : Int32) : MSE m_J9_min_7cf53 d [.int x, .int y] h (some (.int (if y < x then y else x))) h :=
  e_J9_min_7cf53 (b_J9_min_7cf53_0 (fun q => b_J9_min_7cf53_9 (b_J9_min_7cf53_10 ⟨by rw [if_pos q], rfl⟩)) (fun q => b_J9_min_7cf53_5 (b_J9_min_7cf53_10 ⟨by rw [if_neg q], rfl⟩)))
theorem s_maxN {d : Nat} {h : ab_H} {a b : Nat} (ha : a < 2147483648) (hb : b < 2147483648) : MSE m_J9_max_7cf53 d [.int (nI a), .int (nI b)] h (some (.int (nI (max a b)))) h := by
  have := s_max (d := d) (h := h) (nI a) (nI b)
  have e : (if nI a < nI b then nI b else nI a) = nI (max a b) := by
    by_cases q : a < b
    · rw [if_pos (nI_lt q hb), Nat.max_eq_right (Nat.le_of_lt q)]
    · rw [if_neg (nI_nlt (Nat.le_of_not_lt q) ha), Nat.max_eq_left (Nat.le_of_not_lt q)]
  rw [e] at this; exact this
theorem s_minN {d : Nat} {h : ab_H} {a b : Nat} (ha : a < 2147483648) (hb : b < 2147483648) : MSE m_J9_min_7cf53 d [.int (nI a), .int (nI b)] h (some (.int (nI (min a b)))) h := by
  have := s_min (d := d) (h := h) (nI a) (nI b)
  have e : (if nI b < nI a then nI b else nI a) = nI (min a b) := by
    by_cases q : b < a
    · rw [if_pos (nI_lt q ha), Nat.min_eq_right (Nat.le_of_lt q)]
    · rw [if_neg (nI_nlt (Nat.le_of_not_lt q) hb), Nat.min_eq_left (Nat.le_of_not_lt q)]
  rw [e] at this; exact this
/-- trailing zeros, as the JDK finds them -/
def tz5 (y c : Int32) : Int32 := c + (y.toUInt32 >>> ((1 : Int32).toUInt32 &&& Int32.toUInt32 31)).toInt32
def tz4 (y c : Int32) : Int32 := if y ≤ 4 then tz5 y c else tz5 (y.toUInt32 >>> ((2 : Int32).toUInt32 &&& Int32.toUInt32 31)).toInt32 (c + 2)
def tz3 (y c : Int32) : Int32 := if y ≤ 16 then tz4 y c else tz4 (y.toUInt32 >>> ((4 : Int32).toUInt32 &&& Int32.toUInt32 31)).toInt32 (c + 4)
def tz2 (y c : Int32) : Int32 := if y ≤ 256 then tz3 y c else tz3 (y.toUInt32 >>> ((8 : Int32).toUInt32 &&& Int32.toUInt32 31)).toInt32 (c + 8)
def tz1 (y c : Int32) : Int32 := if y ≤ 65536 then tz2 y c else tz2 (y.toUInt32 >>> ((16 : Int32).toUInt32 &&& Int32.toUInt32 31)).toInt32 (c + 16)
def tz0 (x : Int32) : Int32 := if 0 < (x ^^^ (-1)) &&& (x - 1) then tz1 ((x ^^^ (-1)) &&& (x - 1)) 1 else ((x ^^^ (-1)) &&& (x - 1)) &&& 32
set_option maxRecDepth 100000 in
theorem lz_tz : ∀ s, s < 1024 → tz0 (nI s) = nI (lz s) := by decide +kernel
section
variable {d : Nat} {h : ab_H} {r : Int32} {sc : Option (List Int32)}
theorem ntz_5 (y c : Int32) (e : tz5 y c = r) : SW sc m_J6_numberOfTrailingZeros_0f7a4 d 0 0 74 [some (.int y), some (.int c)] [] h (fun o k => o = .inl (some (.int r)) ∧ k = h) := b_J6_numberOfTrailingZeros_0f7a4_74 ⟨by rw [← e]; rfl, rfl⟩
theorem ntz_4 (y c : Int32) (e : tz4 y c = r) : SW sc m_J6_numberOfTrailingZeros_0f7a4 d 0 0 62 [some (.int y), some (.int c)] [] h (fun o k => o = .inl (some (.int r)) ∧ k = h) := by
  unfold tz4 at e
  exact b_J6_numberOfTrailingZeros_0f7a4_62 (fun q => ntz_5 _ _ (by rw [if_pos q] at e; exact e)) (fun q => b_J6_numberOfTrailingZeros_0f7a4_67 (ntz_5 _ _ (by rw [if_neg q] at e; exact e)))
theorem ntz_3 (y c : Int32) (e : tz3 y c = r) : SW sc m_J6_numberOfTrailingZeros_0f7a4 d 0 0 49 [some (.int y), some (.int c)] [] h (fun o k => o = .inl (some (.int r)) ∧ k = h) := by
  unfold tz3 at e
  exact b_J6_numberOfTrailingZeros_0f7a4_49 (fun q => ntz_4 _ _ (by rw [if_pos q] at e; exact e)) (fun q => b_J6_numberOfTrailingZeros_0f7a4_55 (ntz_4 _ _ (by rw [if_neg q] at e; exact e)))
theorem ntz_2 (y c : Int32) (e : tz2 y c = r) : SW sc m_J6_numberOfTrailingZeros_0f7a4 d 0 0 34 [some (.int y), some (.int c)] [] h (fun o k => o = .inl (some (.int r)) ∧ k = h) := by
  unfold tz2 at e
  exact b_J6_numberOfTrailingZeros_0f7a4_34 (fun q => ntz_3 _ _ (by rw [if_pos q] at e; exact e)) (fun q => b_J6_numberOfTrailingZeros_0f7a4_41 (ntz_3 _ _ (by rw [if_neg q] at e; exact e)))
theorem ntz_1 (y : Int32) (e : tz1 y 1 = r) : SW sc m_J6_numberOfTrailingZeros_0f7a4 d 0 0 17 [some (.int y), none] [] h (fun o k => o = .inl (some (.int r)) ∧ k = h) := by
  unfold tz1 at e
  exact b_J6_numberOfTrailingZeros_0f7a4_17 (fun q => ntz_2 _ _ (by rw [if_pos q] at e; exact e)) (fun q => b_J6_numberOfTrailingZeros_0f7a4_26 (ntz_2 _ _ (by rw [if_neg q] at e; exact e)))
end
theorem s_ntz {d : Nat} {h : ab_H} {s : Nat} (hs : s < 1024) : MSE m_J6_numberOfTrailingZeros_0f7a4 d [.int (nI s)] h (some (.int (nI (lz s)))) h := by
  have e := lz_tz s hs
  unfold tz0 at e
  exact e_J6_numberOfTrailingZeros_0f7a4 (b_J6_numberOfTrailingZeros_0f7a4_0 (fun q => ntz_1 _ (by rw [if_pos q] at e; exact e)) (fun q => b_J6_numberOfTrailingZeros_0f7a4_12 ⟨by rw [if_neg q] at e; rw [e], rfl⟩))
/-- Arrays.fill over a row of ints -/
theorem s_fill {d : Nat} {h : ab_H} {a n : Nat} {g : Nat → Int32} {x : Int32} (ha : h[a]? = some (100, ar n g)) (hn : n < 2147483648) : MSE m_J7_fill_53178 d [.ref a, .int x] h none (h.set a (100, ar n (fun _ => x))) := by
  refine e_J7_fill_53178 (b_J7_fill_53178_0 ha ?_)
  rw [ar_len]
  have key : ∀ j k, k + j = n → SW none m_J7_fill_53178 d 0 0 5 [some (.ref a), some (.int x), some (.int (nI k)), some (.int (nI n))] [] (h.set a (100, ar n (fun i => if i < k then x else g i))) (fun o h' => o = .inl none ∧ h' = h.set a (100, ar n (fun _ => x))) := by
    refine up_ind (T := fun k => SW none m_J7_fill_53178 d 0 0 5 [some (.ref a), some (.int x), some (.int (nI k)), some (.int (nI n))] [] (h.set a (100, ar n (fun i => if i < k then x else g i))) (fun o h' => o = .inl none ∧ h' = h.set a (100, ar n (fun _ => x)))) (fun k hk ih => ?_) ?_
    · refine b_J7_fill_53178_5 (fun q => absurd q (nI_ge hk hn)) (fun _ => b_J7_fill_53178_10 (hset_eq ha) (nI_pos (by omega)) (by rw [ar_len, cl_nI (by omega)]; exact hk) ?_)
      rw [cl_nI (by omega), ar_set, hset_hset, nI_1]
      have e : ar n (up1 (fun i => if i < k then x else g i) k x) = ar n (fun i => if i < k + 1 then x else g i) := ar_ext (fun i _ => by
        unfold up1; try dsimp only
        by_cases h1 : i = k
        · subst h1; rw [if_pos rfl, if_pos (by omega)]
        · rw [if_neg h1]
          by_cases h2 : i < k
          · rw [if_pos h2, if_pos (by omega)]
          · rw [if_neg h2, if_neg (by omega)])
      rw [e]; exact ih
    · refine b_J7_fill_53178_5 (fun _ => b_J7_fill_53178_20 ⟨rfl, ?_⟩) (fun q => absurd (nI_le (Nat.le_refl n) hn) q)
      rw [ar_ext (fun i hi => if_pos hi)]
  have h0 := key n 0 (by omega)
  have e0 : h.set a (100, ar n (fun i => if i < 0 then x else g i)) = h := by
    rw [ar_ext (fun i _ => if_neg (Nat.not_lt_zero i))]; exact hset_id ha
  rw [e0] at h0
  exact h0
/-- Math.floorMod by 8 of what goes round a ring of eight -/
theorem s_floorMod {d : Nat} {h : ab_H} {x : Int32} {r : Nat} (hx : (x = -1 ∧ r = 7) ∨ (∃ k, k ≤ 8 ∧ x = nI k ∧ r = k % 8)) : MSE m_J9_floorMod_7cf53 d [.int x, .int 8] h (some (.int (nI r))) h := by
  refine e_J9_floorMod_7cf53 (b_J9_floorMod_7cf53_0 (by decide) (fun q => ?_) (fun q => ?_))
  · rcases hx with ⟨rfl, rfl⟩ | ⟨k, hk, rfl, rfl⟩
    · exact absurd q (by decide)
    · refine b_J9_floorMod_7cf53_18 ⟨?_, rfl⟩
      rw [show nI k - nI k / 8 * 8 = nI (k % 8) from pk_rem (d := 8) (by omega) (by decide) (by decide)]
  · rcases hx with ⟨rfl, rfl⟩ | ⟨k, hk, rfl, rfl⟩
    · refine b_J9_floorMod_7cf53_10 (fun q2 => absurd q2 (by decide)) (fun _ => b_J9_floorMod_7cf53_14 ⟨?_, rfl⟩)
      rw [show (-1 : Int32) - (-1) / 8 * 8 + 8 = nI 7 by decide]
    · exact absurd (show 0 ≤ (nI k ^^^ 8) by
        rcases (show k = 0 ∨ k = 1 ∨ k = 2 ∨ k = 3 ∨ k = 4 ∨ k = 5 ∨ k = 6 ∨ k = 7 ∨ k = 8 by omega) with rfl | rfl | rfl | rfl | rfl | rfl | rfl | rfl | rfl <;> decide) q
