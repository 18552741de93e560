/-! the heap of the law: eighty-four places of known kinds -/
def kdL : List Nat := [9, 6, 0, 101, 3, 100, 100, 1, 100, 0, 101, 3, 100, 100, 3, 100, 100, 1, 100, 8, 100, 100, 100, 100, 100, 4, 100, 2, 100, 100, 100, 7, 104, 100, 100, 100, 100, 100, 100, 100, 3, 100, 100, 1, 100, 8, 100, 100, 100, 100, 100, 4, 100, 4, 100, 5, 104, 100, 100, 100, 100, 100, 100, 100, 100, 104, 100, 100, 100, 100, 10, 100, 100, 100, 100, 100, 100, 100, 100, 100, 100, 100, 102, 103]
def kd (i : Nat) : Nat := kdL.getD i 0
def hp (c : Nat → List Value) : ab_H := (List.range 84).map (fun i => (kd i, c i))
theorem hp_len {c : Nat → List Value} : (hp c).length = 84 := by unfold hp; rw [List.length_map, List.length_range]
theorem hp_at {c : Nat → List Value} {i : Nat} (hi : i < 84) : (hp c)[i]? = some (kd i, c i) := by
  unfold hp
  rw [List.getElem?_map, List.getElem?_range hi]; rfl
theorem hp_is {c : Nat → List Value} {v : List Value} (i k : Nat) (hc : c i = v) (hi : i < 84) (hk : kd i = k) : (hp c)[i]? = some (k, v) := by
  rw [hp_at hi, hc, hk]
theorem hp_set {c : Nat → List Value} {i k : Nat} {v : List Value} (hi : i < 84) (hk : kd i = k) : (hp c).set i (k, v) = hp (up1 c i v) := by
  apply List.ext_getElem?
  intro j
  by_cases e : i = j
  · subst e
    rw [List.getElem?_set_self (by rw [hp_len]; exact hi), hp_at hi, up1_same, hk]
  · rw [hset_ne e]
    by_cases hj : j < 84
    · rw [hp_at hj, hp_at hj, up1_ne _ _ (Ne.symm e)]
    · rw [List.getElem?_eq_none (by rw [hp_len]; omega), List.getElem?_eq_none (by rw [hp_len]; omega)]
theorem hp_fo {c : Nat → List Value} (f a b : Nat) {n : Nat} {g w : Nat → Nat} (h1 : c f = [.ref a, .ref b, .int (nI n)]) (h2 : c a = ar 10 (fun i => nI (g i))) (h3 : c b = ar 10 (fun i => nI (w i))) (hab : a ≠ b) (hn : n ≤ 10) (hg : ∀ i, g i < 1024) (k1 : f < 84 ∧ kd f = 3) (k2 : a < 84 ∧ kd a = 100) (k3 : b < 84 ∧ kd b = 100) : FO (hp c) f a b n g w :=
  ⟨hp_is f 3 h1 k1.1 k1.2, hp_is a 100 h2 k2.1 k2.2, hp_is b 100 h3 k3.1 k3.2, hab, hn, hg⟩
/-! bytes: the object o, its row a, so many, their values -/
def BY (h : ab_H) (o a m : Nat) (f : Nat → Int32) : Prop := h[o]? = some (0, [.ref a, .int (nI m)]) ∧ h[a]? = some (101, ar 400 f) ∧ m ≤ 400
section
variable {d : Nat} {h : ab_H} {o a m : Nat} {f : Nat → Int32}
theorem s_at (B : BY h o a m f) {i : Nat} (hi : i < m) : MSE m_X0_at d [.ref o, .int (nI i)] h (some (.int (f i))) h := by
  have := B.2.2
  exact e_X0_at (b_X0_at_0 (fun q => absurd q (nI_pos (by omega))) (fun _ => b_X0_at_4 B.1 rfl (fun q => absurd q (nI_ge hi (by omega))) (fun _ => b_X0_at_12 B.1 rfl B.2.1 (nI_pos (by omega)) (by rw [cl_nI (by omega)]; exact ar_at _ (by omega)) (b_X0_at_22 ⟨rfl, rfl⟩))))
theorem s_at0 (B : BY h o a m f) {x : Int32} (hx : x < 0 ∨ nI m ≤ x) : MSE m_X0_at d [.ref o, .int x] h (some (.int (-1))) h :=
  e_X0_at (b_X0_at_0 (fun _ => b_X0_at_21 (b_X0_at_22 ⟨rfl, rfl⟩)) (fun q => b_X0_at_4 B.1 rfl (fun _ => b_X0_at_21 (b_X0_at_22 ⟨rfl, rfl⟩)) (fun q2 => by rcases hx with h1 | h1 <;> contradiction)))
theorem s_shorten (B : BY h o a m f) {x : Nat} (hx : x ≤ m) : MSE m_X0_shorten d [.ref o, .int (nI x)] h (some (.int 1)) (h.set o (0, [.ref a, .int (nI x)])) := by
  have := B.2.2
  exact e_X0_shorten (b_X0_shorten_0 (fun q => absurd q (nI_pos (by omega))) (fun _ => b_X0_shorten_4 B.1 rfl (fun _ => b_X0_shorten_14 B.1 (by show 1 < 2; decide) ⟨rfl, rfl⟩) (fun q => absurd (nI_le hx (by omega)) q)))
theorem s_shorten0 (B : BY h o a m f) {x : Int32} (hx : x < 0 ∨ ¬ x ≤ nI m) : MSE m_X0_shorten d [.ref o, .int x] h (some (.int 0)) h :=
  e_X0_shorten (b_X0_shorten_0 (fun _ => b_X0_shorten_12 ⟨rfl, rfl⟩) (fun q => b_X0_shorten_4 B.1 rfl (fun q2 => by rcases hx with h1 | h1 <;> contradiction) (fun _ => b_X0_shorten_12 ⟨rfl, rfl⟩)))
/-- one more byte -/
def bH (h : ab_H) (o a m : Nat) (f : Nat → Int32) : ab_H := (h.set a (101, ar 400 f)).set o (0, [.ref a, .int (nI m)])
theorem b88 (x : Int32) : x.toInt8.toInt32.toInt8.toInt32 = x.toInt8.toInt32 := by rw [Int8.toInt8_toInt32]
theorem s_put (B : BY h o a m f) (hm : m < 400) {x : Int32} : MSE m_X0_put d [.ref o, .int x] h none (bH h o a (m + 1) (up1 f m x.toInt8.toInt32)) := by
  have hao : a ≠ o := hk_ne B.2.1 B.1 (by decide)
  have e1 : h.set a (101, (ar 400 f).set (nI m).toNatClampNeg (.int x.toInt8.toInt32.toInt8.toInt32)) = h.set a (101, ar 400 (up1 f m x.toInt8.toInt32)) := by
    rw [cl_nI (by omega), ar_set, b88]
  have ho : (h.set a (101, ar 400 (up1 f m x.toInt8.toInt32)))[o]? = some (0, [.ref a, .int (nI m)]) := by rw [hset_ne hao]; exact B.1
  refine e_X0_put (b_X0_put_0 B.1 rfl (fun q => absurd q (nI_ge (a := m) (b := 400) hm (by decide))) (fun _ => b_X0_put_10 (x4 := nI m) (x10 := nI m) B.1 rfl B.1 rfl B.2.1 (nI_pos (by omega)) (by rw [cl_nI (by omega), ar_len]; exact hm) (by rw [e1]; exact ho) rfl (by rw [e1]; exact ho) (by show 1 < 2; decide) (b_X0_put_31 ⟨rfl, ?_⟩)))
  rw [e1, nI_1]; rfl
theorem BY.toH (B : BY h o a m f) {m' : Nat} {f' : Nat → Int32} (hm : m' ≤ 400) : BY (bH h o a m' f') o a m' f' := by
  have hao : a ≠ o := hk_ne B.2.1 B.1 (by decide)
  refine ⟨hset_eq (c0 := (0, [.ref a, .int (nI m)])) (by rw [hset_ne hao]; exact B.1), ?_, hm⟩
  unfold bH
  rw [hset_ne (Ne.symm hao)]; exact hset_eq B.2.1
theorem BY.again (B : BY h o a m f) {m' m2 : Nat} {f' f2 : Nat → Int32} : bH (bH h o a m' f') o a m2 f2 = bH h o a m2 f2 := by
  have hao : a ≠ o := hk_ne B.2.1 B.1 (by decide)
  unfold bH
  rw [hset_comm (Ne.symm hao), hset_hset, hset_hset]
theorem BY.id (B : BY h o a m f) : bH h o a m f = h := by
  unfold bH
  rw [hset_id B.2.1, hset_id B.1]
/-- a list of values laid behind the first m -/
def lay (f : Nat → Int32) (m : Nat) (l : List Int32) : Nat → Int32 := fun i => if m ≤ i ∧ i < m + l.length then l.getD (i - m) 0 else f i
theorem lay_nil {f : Nat → Int32} {m : Nat} : lay f m [] = f := funext fun i => if_neg (by rw [List.length_nil]; omega)
theorem lay_cons {f : Nat → Int32} {m : Nat} {x : Int32} {l : List Int32} : lay (up1 f m x) (m + 1) l = lay f m (x :: l) := by
  funext i
  unfold lay up1
  rw [List.length_cons]
  by_cases h1 : i = m
  · subst h1
    rw [if_neg (by omega), if_pos rfl, if_pos (by omega), Nat.sub_self]; rfl
  · by_cases h2 : m + 1 ≤ i ∧ i < m + 1 + l.length
    · rw [if_pos h2, if_pos (by omega)]
      obtain ⟨k, rfl⟩ : ∃ k, i = m + 1 + k := ⟨i - (m + 1), by omega⟩
      rw [show m + 1 + k - (m + 1) = k by omega, show m + 1 + k - m = k + 1 by omega, List.getD_cons_succ]
    · rw [if_neg h2, if_neg h1, if_neg (by omega)]
theorem lay_lay {f : Nat → Int32} {m : Nat} : ∀ {l l' : List Int32}, lay (lay f m l) (m + l.length) l' = lay f m (l ++ l')
  | [], l' => by rw [lay_nil]; rfl
  | x :: l, l' => by
    rw [← lay_cons, List.cons_append, ← lay_cons, List.length_cons, show m + (l.length + 1) = m + 1 + l.length by omega]
    exact lay_lay
/-- what is put lies behind: by many calls -/
def bL (h : ab_H) (o a m : Nat) (f : Nat → Int32) (l : List Int32) : ab_H := bH h o a (m + l.length) (lay f m l)
theorem s_put1 (B : BY h o a m f) {l : List Int32} (hm : m + l.length < 400) {x : Int32} {y : Int32} (hy : x.toInt8.toInt32 = y) : MSE m_X0_put d [.ref o, .int x] (bL h o a m f l) none (bL h o a m f (l ++ [y])) := by
  have B2 := B.toH (m' := m + l.length) (f' := lay f m l) (Nat.le_of_lt hm)
  have := s_put (d := d) B2 hm (x := x)
  rw [B.again, hy] at this
  unfold bL
  rw [List.length_append, ← lay_lay]
  have e : lay (lay f m l) (m + l.length) [y] = up1 (lay f m l) (m + l.length) y := by
    rw [← lay_cons, lay_nil]
  rw [e]
  exact this
theorem BY.toL (B : BY h o a m f) {l : List Int32} (hm : m + l.length ≤ 400) : BY (bL h o a m f l) o a (m + l.length) (lay f m l) := B.toH hm
theorem BY.bL0 (B : BY h o a m f) : bL h o a m f [] = h := by
  unfold bL
  rw [lay_nil]
  exact B.id
def four (x : Int32) : List Int32 := [(x >>> (24 &&& 31)).toInt8.toInt32, (x >>> (16 &&& 31)).toInt8.toInt32, (x >>> (8 &&& 31)).toInt8.toInt32, x.toInt8.toInt32]
theorem s_putFour (B : BY h o a m f) {l : List Int32} (hm : m + l.length + 4 ≤ 400) {x : Int32} : MSE m_X0_putFour (d + 1) [.ref o, .int x] (bL h o a m f l) none (bL h o a m f (l ++ four x)) := by
  have k := fun (l' : List Int32) (q : m + l'.length ≤ 400) => (B.toL (l := l') q).1
  refine e_X0_putFour (b_X0_putFour_0 (k l (by omega)) (s_put1 B (by omega) rfl) (k _ (by rw [List.length_append]; show _ + (_ + 1) ≤ _; omega)) (s_put1 B (by rw [List.length_append]; show _ + (_ + 1) < _; omega) rfl) (k _ (by rw [List.length_append, List.length_append]; show _ + (_ + 1 + 1) ≤ _; omega)) (s_put1 B (by rw [List.length_append, List.length_append]; show _ + (_ + 1 + 1) < _; omega) rfl) (k _ (by rw [List.length_append, List.length_append, List.length_append]; show _ + (_ + 1 + 1 + 1) ≤ _; omega)) (s_put1 B (by rw [List.length_append, List.length_append, List.length_append]; show _ + (_ + 1 + 1 + 1) < _; omega) rfl) ⟨rfl, ?_⟩)
  congr 1
  unfold four
  simp
end
