/-! the heap of the law at its first call -/
def h00 : ab_H := ((([] ++ o_X9 ([] : ab_H).length) ++ o_X10 ([] ++ o_X9 ([] : ab_H).length).length) ++ [(102, List.replicate 1 (.long 0))]) ++ [(103, List.replicate 1 (.double 0))]
def c00 (i : Nat) : List Value := ((h00[i]?).getD (0, [])).2
theorem h00_ln : h00.length = 84 := by decide
theorem h00_kd : ∀ i, i < 84 → ((h00[i]?).getD (0, [])).1 = kd i := by decide
theorem h00_hp : h00 = hp c00 := by
  apply List.ext_getElem?
  intro i
  unfold hp
  rw [List.getElem?_map]
  by_cases hi : i < 84
  · rw [List.getElem?_range hi]
    obtain ⟨q, hq⟩ : ∃ q, h00[i]? = some q := ⟨_, List.getElem?_eq_getElem (by rw [h00_ln]; exact hi)⟩
    have e := h00_kd i hi
    rw [hq] at e
    rw [hq]
    show some q = some (kd i, c00 i)
    unfold c00
    rw [hq, ← e]
    rfl
  · rw [List.getElem?_eq_none (by rw [h00_ln]; omega), List.getElem?_eq_none (by rw [List.length_range]; omega)]
    rfl
def z00 (i : Nat) : Int32 := if i = 6 then 1 else 0
theorem c00_C : C0 c00 1 (fun _ => 0) (fun _ => 1) 0 0 0 (fun _ _ => 0) (fun _ _ => 0) (fun _ _ => 0) (fun _ _ => 0) (fun _ => 0) 0 (fun _ => 0) 0 (fun _ => 0) := by
  refine ⟨⟨⟨rfl, rfl, rfl, rfl, by decide, by decide, fun _ => (show (0 : Nat) < 2 ^ 1 by decide)⟩, ⟨1, fun _ => 0, fun _ => 1, rfl, rfl, rfl, by decide, fun _ => (show (0 : Nat) < 1024 by decide)⟩, ⟨fun _ => 0, rfl, rfl⟩, ⟨0, fun _ => 0, fun _ _ => 0, rfl, rfl, by decide, fun i hi => ?_, rfl, fun _ => (show (0 : Nat) < 1024 by decide)⟩, ⟨fun _ => 0, fun _ => 0, fun _ => 0, rfl, rfl, rfl, rfl⟩, ⟨rfl, rfl, ⟨1, fun _ => 0, fun _ => 1, rfl, rfl, rfl, by decide, fun _ => (show (0 : Nat) < 1024 by decide)⟩, rfl, ⟨fun _ => 0, rfl⟩, ⟨0, fun _ => 0, fun _ _ => 0, rfl, rfl, by decide, fun i hi => ?_, rfl, fun _ => (show (0 : Nat) < 1024 by decide)⟩, 0, fun _ => 0, rfl, rfl, by decide⟩, fun i hi => ⟨fun _ => 0, ?_, fun _ => Or.inl rfl⟩⟩, ⟨rfl, rfl, by decide, by decide, fun i hi => ⟨fun _ => 0, ?_⟩, fun j hj => absurd hj (Nat.not_lt_zero j)⟩, ⟨by decide, rfl, fun i hi => ⟨fun _ => 0, ?_⟩, fun s _ hb => ?_⟩, rfl, ⟨rfl, rfl, by decide⟩, ⟨rfl, rfl, rfl, by decide⟩, (0, 0, 0, 0, 0), (1, (fun _ => 0), (fun _ => 1)), fun _ => 0, ⟨rfl, rfl, rfl, rfl, rfl⟩, ⟨by decide, fun _ => (show (0 : Nat) < 1024 by decide)⟩, by decide⟩
  · rcases (show i = 0 ∨ i = 1 ∨ i = 2 ∨ i = 3 ∨ i = 4 ∨ i = 5 by omega) with h | h | h | h | h | h <;> subst h <;> rfl
  · rcases (show i = 0 ∨ i = 1 ∨ i = 2 ∨ i = 3 ∨ i = 4 ∨ i = 5 by omega) with h | h | h | h | h | h <;> subst h <;> rfl
  · rcases (show i = 0 ∨ i = 1 ∨ i = 2 ∨ i = 3 ∨ i = 4 ∨ i = 5 ∨ i = 6 by omega) with h | h | h | h | h | h | h <;> subst h <;> rfl
  · rcases (show i = 0 ∨ i = 1 ∨ i = 2 ∨ i = 3 ∨ i = 4 ∨ i = 5 ∨ i = 6 ∨ i = 7 by omega) with h | h | h | h | h | h | h | h <;> subst h <;> rfl
  · rcases (show i = 0 ∨ i = 1 ∨ i = 2 by omega) with h | h | h <;> subst h <;> rfl
  · rw [Nat.zero_testBit] at hb; cases hb
theorem c00_z : c00 70 = moL z00 := rfl
theorem c00_M : M0 c00 1 (fun _ => 0) (fun _ => 1) 0 0 (fun _ _ => 0) (fun _ _ => 0) (fun _ _ => 0) (fun _ _ => 0) (fun _ => 0) 0 (fun _ => 0) 0 (fun _ => 0) := by
  have hb : (fun _ => bU 0 : Nat → Int32) = fun _ => 0 := funext fun _ => (by decide : bU 0 = 0)
  refine ⟨⟨FOR.nil, by decide, by decide, wq_99 (fun _ => (show (1 : Nat) ≤ 99 by decide)), ⟨⟨fun _ => 0, rfl⟩, ⟨fun _ => 0, rfl⟩, ⟨fun _ => 0, rfl⟩, ⟨fun _ => 0, rfl⟩, ⟨fun _ => 0, rfl⟩⟩, rfl, z00, c00_z, rfl, rfl⟩, ⟨by decide, by decide, ⟨z00, c00_z, rfl, rfl⟩, ⟨fun _ => 0, rfl, fun j _ hj => absurd hj (Nat.not_lt_zero j)⟩, ⟨fun _ => 0, rfl, fun s _ _ hb => ?_⟩, rfl⟩, ⟨⟨z00, c00_z, rfl⟩, ?_, by decide, fun _ => ⟨0, by decide, (show (0 : Int32) = (if 0 < 128 then nI 0 else nI 0 - 256) by decide)⟩⟩, fun z hz => ?_, fun _ => 0, rfl, fun i hi => absurd hi (Nat.not_lt_zero i)⟩
  · rw [Nat.zero_testBit] at hb; cases hb
  · rw [hb]; rfl
  · have := congrArg (fun l : List Value => l[24]?) (hz.symm.trans c00_z)
    have e2 : z 24 = z00 24 := by simpa [moL] using this
    rw [e2]; rfl
theorem c00_I : INV c00 := ⟨1, _, _, 0, 0, 0, _, _, _, _, _, 0, _, 0, _, c00_C, c00_M, fun _ => (show (1 : Nat) ≤ 99 by decide), fun j hj => absurd hj (Nat.not_lt_zero j), fun s _ hb => by rw [Nat.zero_testBit] at hb; cases hb⟩
theorem c00_o : c00 82 = [.long 0] ∧ c00 83 = [.double 0] := ⟨rfl, rfl⟩
