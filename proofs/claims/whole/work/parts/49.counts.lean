/-! numbers of trees: the object o, its rows p, r, s of eleven -/
def CN (h : ab_H) (o p r s : Nat) (P R S : Nat → Int32) : Prop := h[o]? = some (2, [.ref p, .ref r, .ref s]) ∧ h[p]? = some (100, ar 11 P) ∧ h[r]? = some (100, ar 11 R) ∧ h[s]? = some (100, ar 11 S) ∧ p ≠ r ∧ p ≠ s ∧ r ≠ s
theorem CN.P {h : ab_H} {o p r s : Nat} {P R S : Nat → Int32} (C : CN h o p r s P R S) {P' : Nat → Int32} : CN (h.set p (100, ar 11 P')) o p r s P' R S :=
  ⟨by rw [hset_ne (hk_ne C.2.1 C.1 (by decide))]; exact C.1, hset_eq C.2.1, by rw [hset_ne C.2.2.2.2.1]; exact C.2.2.1, by rw [hset_ne C.2.2.2.2.2.1]; exact C.2.2.2.1, C.2.2.2.2⟩
theorem CN.R {h : ab_H} {o p r s : Nat} {P R S : Nat → Int32} (C : CN h o p r s P R S) {R' : Nat → Int32} : CN (h.set r (100, ar 11 R')) o p r s P R' S :=
  ⟨by rw [hset_ne (hk_ne C.2.2.1 C.1 (by decide))]; exact C.1, by rw [hset_ne (Ne.symm C.2.2.2.2.1)]; exact C.2.1, hset_eq C.2.2.1, by rw [hset_ne C.2.2.2.2.2.2]; exact C.2.2.2.1, C.2.2.2.2⟩
theorem CN.S {h : ab_H} {o p r s : Nat} {P R S : Nat → Int32} (C : CN h o p r s P R S) {S' : Nat → Int32} : CN (h.set s (100, ar 11 S')) o p r s P R S' :=
  ⟨by rw [hset_ne (hk_ne C.2.2.2.1 C.1 (by decide))]; exact C.1, by rw [hset_ne (Ne.symm C.2.2.2.2.2.1)]; exact C.2.1, by rw [hset_ne (Ne.symm C.2.2.2.2.2.2)]; exact C.2.2.1, hset_eq C.2.2.2.1, C.2.2.2.2⟩
/-- partitions of t things into k sets -/
def stir : Nat → Nat → Nat
  | 0, 0 => 1
  | 0, _ + 1 => 0
  | _ + 1, 0 => 0
  | t + 1, k + 1 => (k + 1) * stir t (k + 1) + stir t k
section
variable {d : Nat} {h : ab_H} {o p r s : Nat} {P R S : Nat → Int32}
theorem at11 {f : Nat → Int32} {i : Nat} (hi : i < 11) : (ar 11 f)[(nI i).toNatClampNeg]? = some (.int (f i)) := by rw [cl_nI (by omega)]; exact ar_at _ hi
theorem ln11 {f : Nat → Int32} {i : Nat} (hi : i < 11) : (nI i).toNatClampNeg < (ar 11 f).length := by rw [cl_nI (by omega), ar_len]; exact hi
theorem s_partitionsOf (C : CN h o p r s P R S) {t k : Nat} (ht : t < 100) (hk : k ≤ 10) : MSE m_X2_partitionsOf (d + 1) [.ref o, .int (nI t), .int (nI k)] h (some (.int (nI (stir t k)))) (h.set p (100, ar 11 (fun i => nI (stir t i)))) := by
  have e1 : ((h.set p (100, ar 11 (fun _ => (0 : Int32)))).set p (100, (ar 11 (fun _ => (0 : Int32))).set (0 : Int32).toNatClampNeg (.int 1))) = h.set p (100, ar 11 (fun i => nI (stir 0 i))) := by
    rw [hset_hset, c0, ar_set]
    exact congrArg (fun x => h.set p (100, x)) (ar_ext (fun i _ => by cases i <;> rfl))
  refine e_X2_partitionsOf (b_X2_partitionsOf_0 (fun q => absurd q (nI_pos (by omega))) (fun _ => b_X2_partitionsOf_4 (fun _ => b_X2_partitionsOf_12 C.1 rfl (s_fill C.2.1 (by decide)) C.P.1 rfl C.P.2.1 (by decide) (by rw [ar_len]; decide) ?_) (fun q => absurd (nI_le (a := k) (b := 10) hk (by decide)) q)))
  rw [e1]
  refine up_all (n := t) (T := fun j => a_X2_partitionsOf_29 (d + 1) 0 0 o (nI t) (nI k) (nI j) (h.set p (100, ar 11 (fun i => nI (stir j i)))) (rI (nI (stir t k)) (h.set p (100, ar 11 (fun i => nI (stir t i)))))) (fun j hj ih => ?_) ?_
  · refine b_X2_partitionsOf_29 (fun q => absurd q (nI_ge hj (by omega))) (fun _ => b_X2_partitionsOf_34 ?_)
    -- i places are done, from ten on downwards
    have q := up_all (n := 10) (T := fun i => a_X2_partitionsOf_38 (d + 1) 0 0 o (nI t) (nI k) (nI j) (nI (10 - i)) (h.set p (100, ar 11 (fun x => nI (if 10 - i < x then stir (j + 1) x else stir j x)))) (rI (nI (stir t k)) (h.set p (100, ar 11 (fun i => nI (stir t i)))))) (fun i hi ih2 => ?_) ?_
    · have e4 : h.set p (100, ar 11 (fun x => nI (if 10 - 0 < x then stir (j + 1) x else stir j x))) = h.set p (100, ar 11 (fun i => nI (stir j i))) :=
        congrArg (fun x => h.set p (100, x)) (ar_ext (fun x hx => by rw [if_neg (by omega)]))
      rw [e4] at q; exact q
    · have C2 := C.P (P' := fun x => nI (if 10 - i < x then stir (j + 1) x else stir j x))
      obtain ⟨y, hy⟩ : ∃ y, 10 - i = y + 1 := ⟨9 - i, by omega⟩
      have ey : nI (10 - i) - 1 = nI y := by rw [hy, nI_pred]
      have ey2 : nI (10 - i) + (-1) = nI (10 - (i + 1)) := by rw [hy, show 10 - (i + 1) = y by omega]; exact pk_m1 y
      refine b_X2_partitionsOf_38 (fun q => absurd q (nI_nle (show 0 < 10 - i by omega) (by omega))) (fun _ => b_X2_partitionsOf_43 C2.1 rfl C2.1 rfl C2.2.1 (nI_pos (by omega)) (at11 (by omega)) C2.1 rfl C2.2.1 (by rw [ey]; exact nI_pos (by omega)) (by rw [ey]; exact at11 (by omega)) C2.2.1 (nI_pos (by omega)) (ln11 (by omega)) ?_)
      rw [hset_hset, ey2]
      have e2 : (ar 11 (fun x => nI (if 10 - i < x then stir (j + 1) x else stir j x))).set (nI (10 - i)).toNatClampNeg (.int (nI (10 - i) * nI (if 10 - i < 10 - i then stir (j + 1) (10 - i) else stir j (10 - i)) + nI (if 10 - i < y then stir (j + 1) y else stir j y))) = ar 11 (fun x => nI (if 10 - (i + 1) < x then stir (j + 1) x else stir j x)) := by
        rw [cl_nI (by omega), if_neg (Nat.lt_irrefl _), if_neg (by omega), pk_mul, nI_add, ar_set]
        refine ar_ext (fun x hx => ?_)
        unfold up1; try dsimp only
        by_cases ex : x = 10 - i
        · rw [if_pos ex, if_pos (by omega), ex, hy]; rfl
        · rw [if_neg ex]
          by_cases e3 : 10 - i < x
          · rw [if_pos e3, if_pos (by omega)]
          · rw [if_neg e3, if_neg (by omega)]
      rw [e2]; exact ih2
    · have C2 := C.P (P' := fun x => nI (if 10 - 10 < x then stir (j + 1) x else stir j x))
      refine b_X2_partitionsOf_38 (fun _ => b_X2_partitionsOf_76 C2.1 rfl C2.2.1 (by decide) (by rw [ar_len]; decide) ?_) (fun q => absurd (show nI (10 - 10) ≤ 0 by decide) q)
      rw [hset_hset, nI_1, c0, ar_set]
      have e3 : ar 11 (up1 (fun x => nI (if 10 - 10 < x then stir (j + 1) x else stir j x)) 0 0) = ar 11 (fun i => nI (stir (j + 1) i)) := ar_ext (fun x _ => by
        unfold up1; try dsimp only
        cases x with
        | zero => rfl
        | succ x => rfl)
      rw [e3]; exact ih
  · have C2 := C.P (P' := fun i => nI (stir t i))
    exact b_X2_partitionsOf_29 (fun _ => b_X2_partitionsOf_89 C2.1 rfl C2.2.1 (nI_pos (by omega)) (at11 (by omega)) ⟨rfl, rfl⟩) (fun q => absurd (nI_le (Nat.le_refl t) (by omega)) q)
/-- a product of all from a + 1 to a + k, times x -/
def prF (a : Nat) : Nat → Nat → Nat
  | 0, x => x
  | k + 1, x => prF a k x * (a + k + 1)
/-- trees with so many leaves, as the class tells them; whether the row of partitions is laid -/
def wlX (n l : Nat) : Nat := if n = 1 then (if l = 0 then 1 else 0) else if n < l then 0 else prF l (n - l) (stir (n - 2) (n - l))
def wlP (n l : Nat) (P : Nat → Int32) : Nat → Int32 := if n = 1 ∨ n < l then P else fun i => nI (stir (n - 2) i)
theorem s_treesWithLeaves (C : CN h o p r s P R S) {n l : Nat} (h1 : 1 ≤ n) (hn : n ≤ 10) (hl : l ≤ 10) : MSE m_X2_treesWithLeaves (d + 2) [.ref o, .int (nI n), .int (nI l)] h (some (.int (nI (wlX n l)))) (h.set p (100, ar 11 (wlP n l P))) := by
  by_cases e1 : n = 1
  · subst e1
    have ew : wlP 1 l P = P := if_pos (Or.inl rfl)
    rw [ew, hset_id C.2.1]
    refine e_X2_treesWithLeaves (b_X2_treesWithLeaves_0 (fun q => absurd rfl q) (fun _ => b_X2_treesWithLeaves_5 (fun q => b_X2_treesWithLeaves_13 (b_X2_treesWithLeaves_14 ⟨?_, rfl⟩)) (fun q => b_X2_treesWithLeaves_9 (b_X2_treesWithLeaves_14 ⟨?_, rfl⟩))))
    · have : l ≠ 0 := fun e => q (by rw [e]; rfl)
      unfold wlX
      rw [if_pos rfl, if_neg this]; rfl
    · have : l = 0 := (i_eq0 (by omega)).mp q
      unfold wlX
      rw [if_pos rfl, if_pos this]; rfl
  · have hn1 : ¬ nI n = 1 := fun q => e1 ((i_eq (a := n) (b := 1) (by omega) (by decide)).mp q)
    by_cases e2 : n < l
    · have ew : wlP n l P = P := if_pos (Or.inr e2)
      rw [ew, hset_id C.2.1]
      have : wlX n l = 0 := by unfold wlX; rw [if_neg e1, if_pos e2]
      rw [this]
      exact e_X2_treesWithLeaves (b_X2_treesWithLeaves_0 (fun _ => b_X2_treesWithLeaves_15 (fun q => absurd q (nI_ge e2 (by omega))) (fun _ => b_X2_treesWithLeaves_20 ⟨rfl, rfl⟩)) (fun q => absurd q hn1))
    · have ew : wlP n l P = fun i => nI (stir (n - 2) i) := if_neg (by omega)
      have ex : wlX n l = prF l (n - l) (stir (n - 2) (n - l)) := by unfold wlX; rw [if_neg e1, if_neg e2]
      rw [ew, ex]
      refine e_X2_treesWithLeaves (b_X2_treesWithLeaves_0 (fun _ => b_X2_treesWithLeaves_15 (fun _ => b_X2_treesWithLeaves_22 C.1 (by rw [show nI n - 2 = nI (n - 2) from pk_sub (a := n) (b := 2) (by omega), pk_sub (by omega)]; exact s_partitionsOf C (by omega) (by omega)) ?_) (fun q => absurd (nI_le (show l ≤ n by omega) (by omega)) q)) (fun q => absurd q hn1))
      rw [nI_1]
      refine up_all (n := n - l) (T := fun j => a_X2_treesWithLeaves_38 (d + 2) 0 0 (nI n) (nI (prF l j (stir (n - 2) (n - l)))) (nI (l + j + 1)) (h.set p (100, ar 11 (fun i => nI (stir (n - 2) i)))) (rI (nI (prF l (n - l) (stir (n - 2) (n - l)))) (h.set p (100, ar 11 (fun i => nI (stir (n - 2) i)))))) (fun j hj ih => ?_) ?_
      · have ih : a_X2_treesWithLeaves_38 (d + 2) 0 0 (nI n) (nI (prF l j (stir (n - 2) (n - l)) * (l + j + 1))) (nI (l + j + 1 + 1)) (h.set p (100, ar 11 (fun i => nI (stir (n - 2) i)))) (rI (nI (prF l (n - l) (stir (n - 2) (n - l)))) (h.set p (100, ar 11 (fun i => nI (stir (n - 2) i))))) := ih
        refine b_X2_treesWithLeaves_38 (fun q => absurd q (nI_nlt (show l + j + 1 ≤ n by omega) (by omega))) (fun _ => b_X2_treesWithLeaves_44 ?_)
        rw [nI_1, pk_mul]; exact ih
      · exact b_X2_treesWithLeaves_38 (fun _ => b_X2_treesWithLeaves_55 ⟨rfl, rfl⟩) (fun q => absurd (nI_lt (show n < l + (n - l) + 1 by omega) (by omega)) q)
/-- rooted trees up to isomorphism -/
def rt (k : Nat) : Nat := [0, 1, 1, 2, 4, 9, 20, 48, 115, 286, 719].getD k 0
/-- the sum of d rt d for the divisors d of i up to k -/
def dm : Nat → Nat → Nat
  | 0, _ => 0
  | k + 1, i => if i % (k + 1) = 0 ∧ i ≠ 0 then dm k i + (k + 1) * rt (k + 1) else dm k i
def sg (k : Nat) : Nat → Nat
  | 0 => 0
  | i + 1 => sg k i + dm k (i + 1) * rt (k + 1 - (i + 1))
theorem sg_rt : ∀ k, 1 ≤ k → k < 10 → sg k k / k = rt (k + 1) ∧ sg k k < 2147483648 := by
  intro k h1 h2
  rcases (show k = 1 ∨ k = 2 ∨ k = 3 ∨ k = 4 ∨ k = 5 ∨ k = 6 ∨ k = 7 ∨ k = 8 ∨ k = 9 by omega) with rfl | rfl | rfl | rfl | rfl | rfl | rfl | rfl | rfl <;> decide
/-- the rooted row so far -/
def rr (R : Nat → Int32) (k i : Nat) : Int32 := if 1 ≤ i ∧ i ≤ k then nI (rt i) else R i
theorem s_countRooted (C : CN h o p r s P R S) : MSE m_X2_countRooted (d + 1) [.ref o] h none ((h.set r (100, ar 11 (rr R 10))).set s (100, ar 11 (fun i => nI (dm 9 i)))) := by
  have hr' : ∀ {f g : Nat → Int32}, (h.set s (100, ar 11 f)).set r (100, ar 11 g) = (h.set r (100, ar 11 g)).set s (100, ar 11 f) := fun {f g} => hset_comm (Ne.symm C.2.2.2.2.2.2)
  have C1 := C.S (S' := fun _ => (0 : Int32))
  refine e_X2_countRooted (b_X2_countRooted_0 C.1 rfl (s_fill C.2.2.2.1 (by decide)) C1.1 rfl C1.2.2.1 (by decide) (by rw [ar_len]; decide) ?_)
  have e0 : ((h.set s (100, ar 11 (fun _ => (0 : Int32)))).set r (100, (ar 11 R).set (1 : Int32).toNatClampNeg (.int 1))) = (h.set r (100, ar 11 (rr R 1))).set s (100, ar 11 (fun i => nI (dm 0 i))) := by
    rw [show (1 : Int32).toNatClampNeg = 1 by decide, ar_set, hr']
    refine congrArg (fun x => (h.set r (100, x)).set s (100, ar 11 (fun _ => (0 : Int32)))) (ar_ext (fun i _ => ?_))
    unfold up1 rr; try dsimp only
    by_cases e : i = 1
    · rw [if_pos e, if_pos (by omega), e]; rfl
    · rw [if_neg e, if_neg (by omega)]
  rw [e0]
  refine up_from (a := 1) (n := 10) (T := fun k => a_X2_countRooted_17 (d + 1) 0 0 o (nI k) ((h.set r (100, ar 11 (rr R k))).set s (100, ar 11 (fun i => nI (dm (k - 1) i)))) (rV ((h.set r (100, ar 11 (rr R 10))).set s (100, ar 11 (fun i => nI (dm 9 i)))))) (by decide) (fun k h1 hk ih => ?_) ?_
  · have Ck := fun (x : Nat → Int32) => (C.R (R' := rr R k)).S (S' := x)
    have hset2 : ∀ (x y : Nat → Int32), ((h.set r (100, ar 11 (rr R k))).set s (100, ar 11 x)).set s (100, ar 11 y) = (h.set r (100, ar 11 (rr R k))).set s (100, ar 11 y) := fun x y => hset_hset
    have rrk : ∀ i, 1 ≤ i → i ≤ k → rr R k i = nI (rt i) := fun i a b => if_pos ⟨a, b⟩
    refine b_X2_countRooted_17 (fun q => absurd q (nI_ge (a := k) (b := 10) hk (by decide))) (fun _ => b_X2_countRooted_23 ?_)
    -- the multiples: j of them are done
    have dk : ∀ i, dm k i = if i % k = 0 ∧ i ≠ 0 then dm (k - 1) i + k * rt k else dm (k - 1) i := by
      intro i
      obtain ⟨y, rfl⟩ : ∃ y, k = y + 1 := ⟨k - 1, by omega⟩
      rfl
    have key : ∀ j u, 1 ≤ u → u + j = 11 → a_X2_countRooted_25 (d + 1) 0 0 o (nI k) (nI (u * k)) ((h.set r (100, ar 11 (rr R k))).set s (100, ar 11 (fun i => nI (if i < u * k then dm k i else dm (k - 1) i)))) (rV ((h.set r (100, ar 11 (rr R 10))).set s (100, ar 11 (fun i => nI (dm 9 i))))) := by
      have fin : ∀ u, 1 ≤ u → 10 < u * k → u * k < 1000 → a_X2_countRooted_25 (d + 1) 0 0 o (nI k) (nI (u * k)) ((h.set r (100, ar 11 (rr R k))).set s (100, ar 11 (fun i => nI (if i < u * k then dm k i else dm (k - 1) i)))) (rV ((h.set r (100, ar 11 (rr R 10))).set s (100, ar 11 (fun i => nI (dm 9 i))))) := by
        intro u hu h10 h1000
        refine b_X2_countRooted_25 (fun _ => b_X2_countRooted_55 ?_) (fun q => absurd (nI_lt (a := 10) (b := u * k) h10 (by omega)) q)
        have e3 : (h.set r (100, ar 11 (rr R k))).set s (100, ar 11 (fun i => nI (if i < u * k then dm k i else dm (k - 1) i))) = (h.set r (100, ar 11 (rr R k))).set s (100, ar 11 (fun i => nI (dm k i))) :=
          congrArg (fun x => (h.set r (100, ar 11 (rr R k))).set s (100, x)) (ar_ext (fun i hi => by rw [if_pos (by omega)]))
        rw [e3]
        have C3 := Ck (fun i => nI (dm k i))
        refine up_all (n := k) (T := fun i => a_X2_countRooted_59 (d + 1) 0 0 o (nI k) (nI (sg k i)) (nI (i + 1)) ((h.set r (100, ar 11 (rr R k))).set s (100, ar 11 (fun i => nI (dm k i)))) (rV ((h.set r (100, ar 11 (rr R 10))).set s (100, ar 11 (fun i => nI (dm 9 i)))))) (fun i hi ih2 => ?_) ?_
        · have ih2 : a_X2_countRooted_59 (d + 1) 0 0 o (nI k) (nI (sg k i + dm k (i + 1) * rt (k + 1 - (i + 1)))) (nI (i + 1 + 1)) ((h.set r (100, ar 11 (rr R k))).set s (100, ar 11 (fun i => nI (dm k i)))) (rV ((h.set r (100, ar 11 (rr R 10))).set s (100, ar 11 (fun i => nI (dm 9 i))))) := ih2
          have e4 : nI k + 1 - nI (i + 1) = nI (k + 1 - (i + 1)) := by rw [nI_1]; exact pk_sub (by omega)
          refine b_X2_countRooted_59 (fun q => absurd q (nI_nlt (show i + 1 ≤ k by omega) (by omega))) (fun _ => b_X2_countRooted_64 C3.1 rfl C3.2.2.2.1 (nI_pos (by omega)) (at11 (by omega)) C3.1 rfl C3.2.2.1 (by rw [e4]; exact nI_pos (by omega)) (by rw [e4]; exact at11 (by omega)) ?_)
          rw [nI_1, rrk _ (by omega) (by omega), pk_mul, nI_add]; exact ih2
        · obtain ⟨s1, s2⟩ := sg_rt k h1 hk
          refine b_X2_countRooted_59 (fun _ => b_X2_countRooted_90 C3.1 rfl (nI_ne0 (by omega) (by omega)) C3.2.2.1 (by rw [nI_1]; exact nI_pos (by omega)) (by rw [nI_1]; exact ln11 (by omega)) ?_) (fun q => absurd (nI_lt (show k < k + 1 by omega) (by omega)) q)
          rw [nI_1, pk_div s2 (by omega) (by omega), s1, cl_nI (by omega), ar_set, hset_comm C.2.2.2.2.2.2 |> Eq.symm, hset_hset]
          have e5 : ar 11 (up1 (rr R k) (k + 1) (nI (rt (k + 1)))) = ar 11 (rr R (k + 1)) := ar_ext (fun i _ => by
            unfold up1 rr; try dsimp only
            by_cases e : i = k + 1
            · rw [if_pos e, if_pos (by omega), e]
            · rw [if_neg e]
              by_cases e6 : 1 ≤ i ∧ i ≤ k
              · rw [if_pos e6, if_pos (by omega)]
              · rw [if_neg e6, if_neg (by omega)])
          rw [e5]; exact ih
      intro j
      induction j with
      | zero =>
        intro u hu hj
        have : u = 11 := by omega
        subst this
        exact fin 11 (by omega) (by omega) (by omega)
      | succ j ih2 =>
        intro u hu hj
        have hb : u * k ≤ 100 := by
          have : u * k ≤ 10 * 10 := Nat.mul_le_mul (by omega) (by omega)
          omega
        by_cases h10 : 10 < u * k
        · exact fin u hu h10 (by omega)
        · have C3 := Ck (fun i => nI (if i < u * k then dm k i else dm (k - 1) i))
          have hk0 : 0 < u * k := Nat.mul_pos (by omega) (by omega)
          refine b_X2_countRooted_25 (fun q => absurd q (nI_nlt (a := 10) (b := u * k) (by omega) (by decide))) (fun _ => b_X2_countRooted_31 C3.1 rfl C3.2.2.2.1 (nI_pos (by omega)) (at11 (by omega)) C3.1 rfl C3.2.2.1 (nI_pos (by omega)) (at11 (by omega)) C3.2.2.2.1 (nI_pos (by omega)) (ln11 (by omega)) ?_)
          have e6 : nI (u * k) + nI k = nI ((u + 1) * k) := by rw [nI_add, Nat.succ_mul]
          rw [e6, hset2 |> fun _ => hset_hset, cl_nI (by omega), rrk k h1 (Nat.le_refl _), if_neg (Nat.lt_irrefl _), pk_mul, nI_add, ar_set]
          have e7 : ar 11 (up1 (fun i => nI (if i < u * k then dm k i else dm (k - 1) i)) (u * k) (nI (dm (k - 1) (u * k) + k * rt k))) = ar 11 (fun i => nI (if i < (u + 1) * k then dm k i else dm (k - 1) i)) := ar_ext (fun i hi => by
            unfold up1; try dsimp only
            by_cases e : i = u * k
            · rw [if_pos e, if_pos (by rw [e, Nat.succ_mul]; omega), dk, if_pos ⟨by rw [e]; exact Nat.mul_mod_left _ _, by omega⟩, e]
            · rw [if_neg e]
              by_cases e8 : i < u * k
              · rw [if_pos e8, if_pos (by rw [Nat.succ_mul]; omega)]
              · rw [if_neg e8]
                by_cases e9 : i < (u + 1) * k
                · rw [if_pos e9, dk, if_neg]
                  rintro ⟨e10, -⟩
                  obtain ⟨z, hz⟩ := Nat.dvd_of_mod_eq_zero e10
                  rw [hz, Nat.mul_comm k z] at e e8 e9
                  have z1 : z < u + 1 := Nat.lt_of_mul_lt_mul_right e9
                  have z2 : ¬ z < u := fun q => e8 (Nat.mul_lt_mul_of_pos_right q (by omega))
                  exact e (by rw [show z = u by omega])
                · rw [if_neg e9])
          rw [e7]
          exact ih2 (u + 1) (by omega) (by omega)
    have := key 10 1 (Nat.le_refl _) (by omega)
    rw [Nat.one_mul] at this
    have e9 : (h.set r (100, ar 11 (rr R k))).set s (100, ar 11 (fun i => nI (if i < k then dm k i else dm (k - 1) i))) = (h.set r (100, ar 11 (rr R k))).set s (100, ar 11 (fun i => nI (dm (k - 1) i))) := by
      refine congrArg (fun x => (h.set r (100, ar 11 (rr R k))).set s (100, x)) (ar_ext (fun i hi => ?_))
      by_cases e : i < k
      · rw [if_pos e, dk]
        by_cases e1 : i = 0
        · rw [if_neg (fun q => q.2 e1)]
        · rw [if_neg (fun q => e1 (by have := Nat.mod_eq_of_lt e; omega))]
      · rw [if_neg e]
    rw [e9] at this
    exact this
  · exact b_X2_countRooted_17 (fun _ => b_X2_countRooted_107 ⟨rfl, rfl⟩) (fun q => absurd (nI_le (a := 10) (b := 10) (Nat.le_refl _) (by decide)) q)
theorem rr10 {R : Nat → Int32} {i : Nat} (h1 : 1 ≤ i) (h2 : i ≤ 10) : rr R 10 i = nI (rt i) := if_pos ⟨h1, h2⟩
theorem s_rootedClasses (C : CN h o p r s P R S) {n : Nat} (h1 : 1 ≤ n) (hn : n ≤ 10) : MSE m_X2_rootedClasses (d + 2) [.ref o, .int (nI n)] h (some (.int (nI (rt n)))) ((h.set r (100, ar 11 (rr R 10))).set s (100, ar 11 (fun i => nI (dm 9 i)))) := by
  have C2 := (C.R (R' := rr R 10)).S (S' := fun i => nI (dm 9 i))
  exact e_X2_rootedClasses (b_X2_rootedClasses_0 C.1 (s_countRooted C) (fun q => absurd q (nI_nlt (a := n) (b := 1) h1 (by omega))) (fun _ => b_X2_rootedClasses_9 (fun q => absurd q (nI_nlt (a := 10) (b := n) hn (by decide))) (fun _ => b_X2_rootedClasses_15 C2.1 rfl C2.2.2.1 (nI_pos (by omega)) (at11 (by omega)) (b_X2_rootedClasses_25 ⟨by rw [rr10 h1 hn], rfl⟩))))
/-- free trees up to isomorphism -/
def fp (n : Nat) (x : Int32) : Nat → Int32
  | 0 => x
  | k + 1 => fp n x k + nI (rt (k + 1) * rt (n - (k + 1)))
def fr (n : Nat) : Int32 := nI (rt n) - fp n (if n % 2 = 0 then -nI (rt (n / 2)) else 0) (n - 1) / 2
theorem s_freeClasses (C : CN h o p r s P R S) {n : Nat} (h1 : 1 ≤ n) (hn : n ≤ 10) : MSE m_X2_freeClasses (d + 2) [.ref o, .int (nI n)] h (some (.int (fr n))) ((h.set r (100, ar 11 (rr R 10))).set s (100, ar 11 (fun i => nI (dm 9 i)))) := by
  have C2 := (C.R (R' := rr R 10)).S (S' := fun i => nI (dm 9 i))
  have em : nI n - nI n / 2 * 2 = nI (n % 2) := pk_rem (d := 2) (by omega) (by decide) (by decide)
  have ed : nI n / 2 = nI (n / 2) := pk_div (d := 2) (by omega) (by decide) (by decide)
  have rest : ∀ x, x = (if n % 2 = 0 then -nI (rt (n / 2)) else (0 : Int32)) → SW none m_X2_freeClasses (d + 2) 0 0 36 [some (.ref o), some (.int (nI n)), none, none] [.int x] ((h.set r (100, ar 11 (rr R 10))).set s (100, ar 11 (fun i => nI (dm 9 i)))) (rI (fr n) ((h.set r (100, ar 11 (rr R 10))).set s (100, ar 11 (fun i => nI (dm 9 i))))) := by
    intro x hx
    refine b_X2_freeClasses_36 ?_
    refine up_all (n := n - 1) (T := fun k => a_X2_freeClasses_39 (d + 2) 0 0 o (nI n) (fp n x k) (nI (k + 1)) ((h.set r (100, ar 11 (rr R 10))).set s (100, ar 11 (fun i => nI (dm 9 i)))) (rI (fr n) ((h.set r (100, ar 11 (rr R 10))).set s (100, ar 11 (fun i => nI (dm 9 i)))))) (fun k hk ih => ?_) ?_
    · have e4 : nI n - nI (k + 1) = nI (n - (k + 1)) := pk_sub (by omega)
      refine b_X2_freeClasses_39 (fun q => absurd q (nI_ge (show k + 1 < n by omega) (by omega))) (fun _ => b_X2_freeClasses_44 C2.1 rfl C2.2.2.1 (nI_pos (by omega)) (at11 (by omega)) C2.1 rfl C2.2.2.1 (by rw [e4]; exact nI_pos (by omega)) (by rw [e4]; exact at11 (by omega)) ?_)
      rw [nI_1, rr10 (by omega) (by omega), rr10 (by omega) (by omega), pk_mul]
      exact ih
    · rw [show n - 1 + 1 = n by omega]
      refine b_X2_freeClasses_39 (fun _ => b_X2_freeClasses_68 C2.1 rfl C2.2.2.1 (nI_pos (by omega)) (at11 (by omega)) (by decide) ⟨?_, rfl⟩) (fun q => absurd (nI_le (Nat.le_refl n) (by omega)) q)
      rw [rr10 h1 hn, hx]; rfl
  refine e_X2_freeClasses (b_X2_freeClasses_0 (fun q => absurd q (nI_nlt (a := n) (b := 1) h1 (by omega))) (fun _ => b_X2_freeClasses_5 (fun _ => b_X2_freeClasses_13 C.1 (s_countRooted C) (by decide) (fun q => b_X2_freeClasses_35 (rest _ ?_)) (fun q => b_X2_freeClasses_23 C2.1 rfl (by decide) C2.2.2.1 (by rw [ed]; exact nI_pos (by omega)) (by rw [ed]; exact at11 (by omega)) (rest _ ?_))) (fun q => absurd (nI_le (a := n) (b := 10) hn (by decide)) q)))
  · rw [em] at q
    rw [if_neg (fun e => q (by rw [e]; rfl))]
  · rw [em] at q
    have e := (i_eq0 (show n % 2 < 2147483648 by omega)).mp q
    rw [if_pos e, rr10 (by omega) (by omega)]
end
