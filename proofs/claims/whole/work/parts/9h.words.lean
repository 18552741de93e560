section
set_option maxRecDepth 100000
/-! the words of all trees of six vertices, of five, .. (slow: some minutes) -/
theorem svW6_0 : ∀ r, r < 54 → svV 6 (0 + r) ∈ [683, 427, 363, 235, 411, 231] := by decide +kernel
theorem svW6_1 : ∀ r, r < 54 → svV 6 (54 + r) ∈ [683, 427, 363, 235, 411, 231] := by decide +kernel
theorem svW6_2 : ∀ r, r < 54 → svV 6 (108 + r) ∈ [683, 427, 363, 235, 411, 231] := by decide +kernel
theorem svW6_3 : ∀ r, r < 54 → svV 6 (162 + r) ∈ [683, 427, 363, 235, 411, 231] := by decide +kernel
theorem svW6_4 : ∀ r, r < 54 → svV 6 (216 + r) ∈ [683, 427, 363, 235, 411, 231] := by decide +kernel
theorem svW6_5 : ∀ r, r < 54 → svV 6 (270 + r) ∈ [683, 427, 363, 235, 411, 231] := by decide +kernel
theorem svW6_6 : ∀ r, r < 54 → svV 6 (324 + r) ∈ [683, 427, 363, 235, 411, 231] := by decide +kernel
theorem svW6_7 : ∀ r, r < 54 → svV 6 (378 + r) ∈ [683, 427, 363, 235, 411, 231] := by decide +kernel
theorem svW6_8 : ∀ r, r < 54 → svV 6 (432 + r) ∈ [683, 427, 363, 235, 411, 231] := by decide +kernel
theorem svW6_9 : ∀ r, r < 54 → svV 6 (486 + r) ∈ [683, 427, 363, 235, 411, 231] := by decide +kernel
theorem svW6_10 : ∀ r, r < 54 → svV 6 (540 + r) ∈ [683, 427, 363, 235, 411, 231] := by decide +kernel
theorem svW6_11 : ∀ r, r < 54 → svV 6 (594 + r) ∈ [683, 427, 363, 235, 411, 231] := by decide +kernel
theorem svW6_12 : ∀ r, r < 54 → svV 6 (648 + r) ∈ [683, 427, 363, 235, 411, 231] := by decide +kernel
theorem svW6_13 : ∀ r, r < 54 → svV 6 (702 + r) ∈ [683, 427, 363, 235, 411, 231] := by decide +kernel
theorem svW6_14 : ∀ r, r < 54 → svV 6 (756 + r) ∈ [683, 427, 363, 235, 411, 231] := by decide +kernel
theorem svW6_15 : ∀ r, r < 54 → svV 6 (810 + r) ∈ [683, 427, 363, 235, 411, 231] := by decide +kernel
theorem svW6_16 : ∀ r, r < 54 → svV 6 (864 + r) ∈ [683, 427, 363, 235, 411, 231] := by decide +kernel
theorem svW6_17 : ∀ r, r < 54 → svV 6 (918 + r) ∈ [683, 427, 363, 235, 411, 231] := by decide +kernel
theorem svW6_18 : ∀ r, r < 54 → svV 6 (972 + r) ∈ [683, 427, 363, 235, 411, 231] := by decide +kernel
theorem svW6_19 : ∀ r, r < 54 → svV 6 (1026 + r) ∈ [683, 427, 363, 235, 411, 231] := by decide +kernel
theorem svW6_20 : ∀ r, r < 54 → svV 6 (1080 + r) ∈ [683, 427, 363, 235, 411, 231] := by decide +kernel
theorem svW6_21 : ∀ r, r < 54 → svV 6 (1134 + r) ∈ [683, 427, 363, 235, 411, 231] := by decide +kernel
theorem svW6_22 : ∀ r, r < 54 → svV 6 (1188 + r) ∈ [683, 427, 363, 235, 411, 231] := by decide +kernel
theorem svW6_23 : ∀ r, r < 54 → svV 6 (1242 + r) ∈ [683, 427, 363, 235, 411, 231] := by decide +kernel
theorem svW5 : ∀ r, r < 125 → svV 5 r ∈ [171, 107, 103] := by decide +kernel
theorem svW4 : ∀ r, r < 16 → svV 4 r ∈ [43, 27] := by decide +kernel
theorem svW3 : ∀ r, r < 3 → svV 3 r ∈ [11] := by decide +kernel
theorem svW6 (r : Nat) (h : r < 1296) : svV 6 r ∈ [683, 427, 363, 235, 411, 231] := by
  have e : r = 54 * (r / 54) + r % 54 := (Nat.div_add_mod r 54).symm
  have h1 : r % 54 < 54 := Nat.mod_lt _ (by decide)
  have h2 : r / 54 < 24 := by omega
  rw [e]
  obtain ⟨b, hb⟩ : ∃ b, b = r % 54 := ⟨_, rfl⟩
  obtain ⟨a, ha⟩ : ∃ a, a = r / 54 := ⟨_, rfl⟩
  rw [← hb] at h1 ⊢
  rw [← ha] at h2 ⊢
  rcases (show a = 0 ∨ a = 1 ∨ a = 2 ∨ a = 3 ∨ a = 4 ∨ a = 5 ∨ a = 6 ∨ a = 7 ∨ a = 8 ∨ a = 9 ∨ a = 10 ∨ a = 11 ∨ a = 12 ∨ a = 13 ∨ a = 14 ∨ a = 15 ∨ a = 16 ∨ a = 17 ∨ a = 18 ∨ a = 19 ∨ a = 20 ∨ a = 21 ∨ a = 22 ∨ a = 23 by omega) with h | h | h | h | h | h | h | h | h | h | h | h | h | h | h | h | h | h | h | h | h | h | h | h
  · rw [h]; exact svW6_0 b h1
  · rw [h]; exact svW6_1 b h1
  · rw [h]; exact svW6_2 b h1
  · rw [h]; exact svW6_3 b h1
  · rw [h]; exact svW6_4 b h1
  · rw [h]; exact svW6_5 b h1
  · rw [h]; exact svW6_6 b h1
  · rw [h]; exact svW6_7 b h1
  · rw [h]; exact svW6_8 b h1
  · rw [h]; exact svW6_9 b h1
  · rw [h]; exact svW6_10 b h1
  · rw [h]; exact svW6_11 b h1
  · rw [h]; exact svW6_12 b h1
  · rw [h]; exact svW6_13 b h1
  · rw [h]; exact svW6_14 b h1
  · rw [h]; exact svW6_15 b h1
  · rw [h]; exact svW6_16 b h1
  · rw [h]; exact svW6_17 b h1
  · rw [h]; exact svW6_18 b h1
  · rw [h]; exact svW6_19 b h1
  · rw [h]; exact svW6_20 b h1
  · rw [h]; exact svW6_21 b h1
  · rw [h]; exact svW6_22 b h1
  · rw [h]; exact svW6_23 b h1
end
