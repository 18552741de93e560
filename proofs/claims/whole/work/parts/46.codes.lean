/-! small methods of the class, words met, codes -/
section
variable {d : Nat} {h : ab_H}
theorem s_codeLength {n : Nat} (hn : n < 1000) : MSE m_X9_codeLength (d + 1) [.int (nI n)] h (some (.int (nI (n - 2)))) h := by
  refine e_X9_codeLength (b_X9_codeLength_0 (s_max _ _) ⟨?_, rfl⟩)
  have e : (if nI n - 2 < 0 then (0 : Int32) else nI n - 2) = nI (n - 2) := by
    by_cases h2 : 2 ≤ n
    · rw [show nI n - 2 = nI (n - 2) from pk_sub h2, if_neg (nI_pos (by omega))]
    · have h3 : n = 0 ∨ n = 1 := by omega
      rcases h3 with rfl | rfl <;> decide
  rw [e]
/-- n to the power of its code's length -/
theorem s_treesWith {n : Nat} (hn : n < 1000) : MSE m_X9_treesWith (d + 2) [.int (nI n)] h (some (.int (nI (n ^ (n - 2))))) h := by
  refine e_X9_treesWith (b_X9_treesWith_0 ?_)
  refine up_all (n := n - 2) (T := fun k => a_X9_treesWith_4 (d + 2) 0 0 (nI n) (nI (n ^ k)) (nI k) h (rI (nI (n ^ (n - 2))) h)) (fun k hk ih => ?_) ?_
  · have ih : a_X9_treesWith_4 (d + 2) 0 0 (nI n) (nI (n ^ (k + 1))) (nI (k + 1)) h (rI (nI (n ^ (n - 2))) h) := ih
    refine b_X9_treesWith_4 (s_codeLength hn) (fun q => absurd q (nI_ge hk (by omega))) (fun _ => b_X9_treesWith_12 ?_)
    rw [nI_1, pk_mul]
    rw [Nat.pow_succ] at ih; exact ih
  · exact b_X9_treesWith_4 (s_codeLength hn) (fun _ => b_X9_treesWith_22 ⟨rfl, rfl⟩) (fun q => absurd (nI_le (Nat.le_refl _) (by omega)) q)
def fac : Nat → Nat
  | 0 => 1
  | k + 1 => fac k * (k + 1)
theorem s_factorial {n : Nat} (hn : n < 1000) : MSE m_X9_factorial d [.int (nI n)] h (some (.int (nI (fac n)))) h := by
  refine e_X9_factorial (b_X9_factorial_0 ?_)
  by_cases h2 : n < 2
  · refine b_X9_factorial_4 (fun _ => b_X9_factorial_19 ⟨?_, rfl⟩) (fun q => absurd (nI_lt (a := n) (b := 2) h2 (by decide)) q)
    rcases (show n = 0 ∨ n = 1 by omega) with rfl | rfl <;> rfl
  · have key := up_from (a := 2) (n := n + 1) (T := fun k => a_X9_factorial_4 d 0 0 (nI n) (nI (fac (k - 1))) (nI k) h (rI (nI (fac n)) h)) (by omega) (fun k h1 hk ih => ?_) ?_
    · exact key
    · have ih : a_X9_factorial_4 d 0 0 (nI n) (nI (fac k)) (nI (k + 1)) h (rI (nI (fac n)) h) := ih
      refine b_X9_factorial_4 (fun q => absurd q (nI_nlt (show k ≤ n by omega) (by omega))) (fun _ => b_X9_factorial_9 ?_)
      rw [nI_1, pk_mul]
      have e : fac (k - 1) * k = fac k := by
        obtain ⟨j, rfl⟩ : ∃ j, k = j + 1 := ⟨k - 1, by omega⟩
        rfl
      rw [e]; exact ih
    · exact b_X9_factorial_4 (fun _ => b_X9_factorial_19 ⟨rfl, rfl⟩) (fun q => absurd (nI_lt (show n < n + 1 by omega) (by omega)) q)
/-- the factorial of -1 and of 0 -/
theorem s_factorialN {x : Int32} (hx : x < 2) : MSE m_X9_factorial d [.int x] h (some (.int 1)) h :=
  e_X9_factorial (b_X9_factorial_0 (b_X9_factorial_4 (fun _ => b_X9_factorial_19 ⟨rfl, rfl⟩) (fun q => absurd hx q)))
theorem s_quotient {x y : Int32} (hy : ¬ y = 0) : MSE m_X9_quotient d [.int x, .int y] h (some (.int (x / y))) h :=
  e_X9_quotient (b_X9_quotient_0 (fun _ => b_X9_quotient_8 hy (b_X9_quotient_11 ⟨rfl, rfl⟩)) (fun q => absurd q hy))
/-! words that were met -/
def ME (h : ab_H) (m a c : Nat) (q : Nat → Int32) : Prop := h[m]? = some (4, [.ref a, .int (nI c)]) ∧ h[a]? = some (100, ar 10 q) ∧ c ≤ 10
theorem s_forget {m a c : Nat} {q : Nat → Int32} (E : ME h m a c q) : MSE m_X4_forget d [.ref m] h none (h.set m (4, [.ref a, .int (nI 0)])) :=
  e_X4_forget (b_X4_forget_0 E.1 (by show 1 < 2; decide) ⟨rfl, rfl⟩)
/-- the place at which a word was met -/
def mt (q : Nat → Int32) (c : Nat) (x : Int32) : Option Nat := (List.range c).find? (fun i => decide (q i = x))
theorem s_numberOf {m a c : Nat} {q : Nat → Int32} {x : Int32} (E : ME h m a c q) {i : Nat} (hi : mt q c x = some i) : MSE m_X4_numberOf d [.ref m, .int x] h (some (.int (nI i))) h := by
  have hc := E.2.2
  refine e_X4_numberOf (b_X4_numberOf_0 ?_)
  refine look_for (n := c) (r := mt q c x) (T := fun k => a_X4_numberOf_2 d 0 0 m x (nI k) h (rI (nI i) h)) rfl (fun k hk h1 ih => ?_) (fun hz => absurd (hz.symm.trans hi) (by simp))
  refine b_X4_numberOf_2 E.1 rfl (fun q => absurd q (nI_ge hk (by omega))) (fun _ => b_X4_numberOf_10 (fun q => absurd q (nI_ge (a := k) (b := 10) (by omega) (by decide))) (fun _ => b_X4_numberOf_16 E.1 rfl E.2.1 (nI_pos (by omega)) (by rw [cl_nI (by omega)]; exact ar_at _ (by omega)) (fun q2 => b_X4_numberOf_28 ?_) (fun q2 => b_X4_numberOf_26 ⟨?_, rfl⟩)))
  · rw [nI_1]; exact ih (decide_eq_false q2)
  · have := h1 (decide_eq_true q2)
    rw [hi] at this; cases this; rfl
theorem s_numberOf0 {m a c : Nat} {q : Nat → Int32} {x : Int32} (E : ME h m a c q) (hi : mt q c x = none) (hc : c < 10) : MSE m_X4_numberOf d [.ref m, .int x] h (some (.int (nI c))) ((h.set a (100, ar 10 (up1 q c x))).set m (4, [.ref a, .int (nI (c + 1))])) := by
  have ham : a ≠ m := hk_ne E.2.1 E.1 (by decide)
  have e1 : h.set a (100, (ar 10 q).set (nI c).toNatClampNeg (.int x)) = h.set a (100, ar 10 (up1 q c x)) := by rw [cl_nI (by omega), ar_set]
  have hm1 : (h.set a (100, ar 10 (up1 q c x)))[m]? = some (4, [.ref a, .int (nI c)]) := by rw [hset_ne ham]; exact E.1
  refine e_X4_numberOf (b_X4_numberOf_0 ?_)
  refine look_for (n := c) (r := mt q c x) (T := fun k => a_X4_numberOf_2 d 0 0 m x (nI k) h (rI (nI c) ((h.set a (100, ar 10 (up1 q c x))).set m (4, [.ref a, .int (nI (c + 1))])))) rfl (fun k hk h1 ih => ?_) (fun _ => ?_)
  · refine b_X4_numberOf_2 E.1 rfl (fun q => absurd q (nI_ge hk (by omega))) (fun _ => b_X4_numberOf_10 (fun q => absurd q (nI_ge (a := k) (b := 10) (by omega) (by decide))) (fun _ => b_X4_numberOf_16 E.1 rfl E.2.1 (nI_pos (by omega)) (by rw [cl_nI (by omega)]; exact ar_at _ (by omega)) (fun q2 => b_X4_numberOf_28 ?_) (fun q2 => ?_)))
    · rw [nI_1]; exact ih (decide_eq_false q2)
    · have := h1 (decide_eq_true q2)
      rw [hi] at this; cases this
  · refine b_X4_numberOf_2 E.1 rfl (fun _ => b_X4_numberOf_34 E.1 rfl (fun _ => ?_) (fun q => absurd (nI_lt (a := c) (b := 10) hc (by decide)) q)) (fun q => absurd (nI_le (Nat.le_refl c) (by omega)) q)
    refine b_X4_numberOf_45 (x4 := nI c) (x9 := nI c) (x14 := nI (c + 1)) E.1 rfl E.1 rfl E.2.1 (nI_pos (by omega)) (by rw [cl_nI (by omega), ar_len]; omega) (by rw [e1]; exact hm1) rfl (by rw [e1]; exact hm1) (by show 1 < 2; decide) (by rw [e1, nI_1]; exact hset_eq hm1) rfl ⟨?_, ?_⟩
    · rw [nI_pred]
    · rw [e1, nI_1]; rfl
/-! codes -/
def CO (h : ab_H) (c a : Nat) (q : Nat → Nat) : Prop := h[c]? = some (1, [.ref a]) ∧ h[a]? = some (100, ar 10 (fun i => nI (q i)))
theorem CO.set {c a : Nat} {q : Nat → Nat} (C : CO h c a q) {q' : Nat → Nat} : CO (h.set a (100, ar 10 (fun i => nI (q' i)))) c a q' :=
  ⟨by rw [hset_ne (hk_ne C.2 C.1 (by decide))]; exact C.1, hset_eq C.2⟩
theorem CO.off {c a x : Nat} {q : Nat → Nat} {o : Nat × List Value} (C : CO h c a q) (h1 : x ≠ c) (h2 : x ≠ a) : CO (h.set x o) c a q :=
  ⟨by rw [hset_ne h1]; exact C.1, by rw [hset_ne h2]; exact C.2⟩
theorem s_number {c a : Nat} {q : Nat → Nat} (C : CO h c a q) {i : Nat} (hi : i < 10) : MSE m_X1_number d [.ref c, .int (nI i)] h (some (.int (nI (q i)))) h :=
  e_X1_number (b_X1_number_0 (fun q => absurd q (nI_pos (by omega))) (fun _ => b_X1_number_4 (fun q => absurd q (nI_ge (a := i) (b := 10) hi (by decide))) (fun _ => b_X1_number_10 C.1 rfl C.2 (nI_pos (by omega)) (by rw [cl_nI (by omega)]; exact ar_at _ hi) (b_X1_number_20 ⟨rfl, rfl⟩))))
theorem s_setNumber {c a : Nat} {q : Nat → Nat} (C : CO h c a q) {i x : Nat} (hi : i < 10) : MSE m_X1_setNumber d [.ref c, .int (nI i), .int (nI x)] h none (h.set a (100, ar 10 (fun j => nI (up1 q i x j)))) := by
  refine e_X1_setNumber (b_X1_setNumber_0 (fun q => absurd q (nI_pos (by omega))) (fun _ => b_X1_setNumber_4 (fun q => absurd q (nI_ge (a := i) (b := 10) hi (by decide))) (fun _ => b_X1_setNumber_10 C.1 rfl C.2 (nI_pos (by omega)) (by rw [cl_nI (by omega), ar_len]; exact hi) (b_X1_setNumber_17 ⟨rfl, ?_⟩))))
  rw [cl_nI (by omega), ar_set, ar_up]
/-- the least leaf of what is left -/
def lf (g : Nat → Nat) (n left : Nat) : Option Nat := (List.range n).find? (fun v => left.testBit v && decide (pc (g v &&& left) = 1))
theorem s_lowestLeaf {f a b n : Nat} {g w : Nat → Nat} (F : FO h f a b n g w) {left : Nat} (hl : left < 1024) : MSE m_X1_lowestLeaf (d + 1) [.ref f, .int (nI left)] h (some (.int (iO (lf g n left)))) h := by
  have hn := F.le
  refine e_X1_lowestLeaf (b_X1_lowestLeaf_0 ?_)
  refine look_for (n := n) (r := lf g n left) (T := fun k => a_X1_lowestLeaf_2 (d + 1) 0 0 f (nI left) (nI k) h (rI (iO (lf g n left)) h)) rfl (fun k hk h1 ih => ?_) (fun hz => ?_)
  · have hp := pc_le (g k &&& left)
    refine b_X1_lowestLeaf_2 F.1 rfl (fun q => absurd q (nI_ge hk F.n31)) (fun _ => b_X1_lowestLeaf_10 (s_holds (by omega) (by omega)) (fun q => b_X1_lowestLeaf_34 ?_) (fun q => b_X1_lowestLeaf_18 F.1 (s_nearOf F (by omega)) (by rw [i_and]; exact s_bitCount (and_lt (F.lt k))) (fun q2 => b_X1_lowestLeaf_34 ?_) (fun q2 => b_X1_lowestLeaf_32 ⟨?_, rfl⟩)))
    · rw [nI_1]; exact ih (by rw [h01.mp q]; rfl)
    · rw [nI_1]; exact ih (by rw [decide_eq_false (fun e => q2 (by rw [e]; rfl)), Bool.and_false])
    · rw [h1 (by rw [tb_of q, decide_eq_true ((i_eq (a := pc (g k &&& left)) (b := 1) (by omega) (by decide)).mp q2)]; rfl)]; rfl
  · rw [hz]
    exact b_X1_lowestLeaf_2 F.1 rfl (fun _ => b_X1_lowestLeaf_40 ⟨rfl, rfl⟩) (fun q => absurd (nI_le (Nat.le_refl n) F.n31) q)
/-- taking a code: what is left after k steps, the k-th number -/
def tkL (g : Nat → Nat) (n : Nat) : Nat → Nat
  | 0 => al n
  | k + 1 => df (tkL g n k) (2 ^ (lf g n (tkL g n k)).getD 0)
def tkN (g : Nat → Nat) (n k : Nat) : Nat := (low (g ((lf g n (tkL g n k)).getD 0) &&& tkL g n k)).getD 0
/-- every step finds a leaf with a neighbor -/
def tkOk (g : Nat → Nat) (n : Nat) : Prop := ∀ k, k < n - 2 → ∃ v u, lf g n (tkL g n k) = some v ∧ low (g v &&& tkL g n k) = some u
theorem tkL_lt {g : Nat → Nat} {n : Nat} (hn : n ≤ 10) : ∀ k, tkL g n k < 1024
  | 0 => al_lt hn
  | k + 1 => df_lt (k := 10) (tkL_lt hn k)
def tkQ (g : Nat → Nat) (n : Nat) (q : Nat → Nat) : Nat → Nat → Nat
  | 0 => q
  | k + 1 => up1 (tkQ g n q k) k (tkN g n k)
theorem s_take {f a b n c e : Nat} {g w q : Nat → Nat} (F : FO h f a b n g w) (C : CO h c e q) (hea : e ≠ a) (heb : e ≠ b) (ok : tkOk g n) : MSE m_X1_take (d + 2) [.ref c, .ref f] h none (h.set e (100, ar 10 (fun i => nI (tkQ g n q (n - 2) i)))) := by
  have hn := F.le
  have hef : e ≠ f := hk_ne C.2 F.1 (by decide)
  refine e_X1_take (b_X1_take_0 F.1 (s_all F) ?_)
  have key := up_all (n := n - 2) (T := fun k => a_X1_take_7 (d + 2) 0 0 c f (nI (tkL g n k)) (nI k) (h.set e (100, ar 10 (fun i => nI (tkQ g n q k i)))) (rV (h.set e (100, ar 10 (fun i => nI (tkQ g n q (n - 2) i)))))) (fun k hk ih => ?_) ?_
  · have e0 : h.set e (100, ar 10 (fun i => nI (tkQ g n q 0 i))) = h := hset_id C.2
    rw [e0] at key; exact key
  · have F2 := F.off (c := (100, ar 10 (fun i => nI (tkQ g n q k i)))) hef hea heb
    have C2 := C.set (q' := tkQ g n q k)
    have C3 := C.set (q' := up1 (tkQ g n q k) k (tkN g n k))
    obtain ⟨v, u, h1, h2⟩ := ok k hk
    have hl := tkL_lt (g := g) hn k
    have hv : v < n := List.mem_range.mp (List.mem_of_find?_eq_some h1)
    have m1 := s_lowestLeaf (d := d) F2 hl
    rw [h1] at m1
    have m2 := s_lowest (d := d) (h := h.set e (100, ar 10 (fun i => nI (tkQ g n q k i)))) (s := g v &&& tkL g n k) (by have := and_lt (y := tkL g n k) (F.lt v); omega)
    rw [h2] at m2
    have eN : tkN g n k = u := by unfold tkN; rw [h1]; show (low (g v &&& tkL g n k)).getD 0 = u; rw [h2]; rfl
    have eL : tkL g n (k + 1) = df (tkL g n k) (2 ^ v) := by
      show df (tkL g n k) (2 ^ (lf g n (tkL g n k)).getD 0) = _
      rw [h1]; rfl
    have ih : a_X1_take_7 (d + 2) 0 0 c f (nI (tkL g n (k + 1))) (nI (k + 1)) (h.set e (100, ar 10 (fun i => nI (up1 (tkQ g n q k) k (tkN g n k) i)))) (rV (h.set e (100, ar 10 (fun i => nI (tkQ g n q (n - 2) i))))) := ih
    refine b_X1_take_7 F2.1 rfl (s_codeLength (by omega)) (fun q => absurd q (nI_ge hk (by omega))) (fun _ => b_X1_take_18 (v3 := nI v) (v9 := nI (g v)) (v12 := nI u) m1 F2.1 (s_nearOf F2 (by omega)) (by rw [i_and]; exact m2) C2.1 (s_setNumber C2 (by omega)) (s_without (by omega)) ?_)
    rw [nI_1, hset_hset, ← eN, ← eL]; exact ih
  · have F2 := F.off (c := (100, ar 10 (fun i => nI (tkQ g n q (n - 2) i)))) hef hea heb
    exact b_X1_take_7 F2.1 rfl (s_codeLength (by omega)) (fun _ => b_X1_take_54 ⟨rfl, rfl⟩) (fun q => absurd (nI_le (Nat.le_refl _) (by omega)) q)
theorem tkQ_at {g q : Nat → Nat} {n : Nat} : ∀ k i, i < k → tkQ g n q k i = tkN g n i
  | 0, _, h => absurd h (Nat.not_lt_zero _)
  | k + 1, i, h => by
    unfold tkQ
    by_cases e : i = k
    · rw [e, up1_same]
    · rw [up1_ne _ _ e]; exact tkQ_at k i (by omega)
/-- the rank of the code -/
def rk (n : Nat) (q : Nat → Nat) : Nat → Nat
  | 0 => 0
  | k + 1 => rk n q k * n + q k
theorem s_rankOf {f a b n c e : Nat} {g w q : Nat → Nat} (F : FO h f a b n g w) (C : CO h c e q) (hea : e ≠ a) (heb : e ≠ b) (ok : tkOk g n) : MSE m_X1_rankOf (d + 3) [.ref c, .ref f] h (some (.int (nI (rk n (tkN g n) (n - 2))))) (h.set e (100, ar 10 (fun i => nI (tkQ g n q (n - 2) i)))) := by
  have hn := F.le
  have hef : e ≠ f := hk_ne C.2 F.1 (by decide)
  have F2 := F.off (c := (100, ar 10 (fun i => nI (tkQ g n q (n - 2) i)))) hef hea heb
  have C2 := C.set (q' := tkQ g n q (n - 2))
  refine e_X1_rankOf (b_X1_rankOf_0 C.1 (s_take F C hea heb ok) ?_)
  refine up_all (n := n - 2) (T := fun k => a_X1_rankOf_9 (d + 3) 0 0 c f (nI (rk n (tkN g n) k)) (nI k) (h.set e (100, ar 10 (fun i => nI (tkQ g n q (n - 2) i)))) (rI (nI (rk n (tkN g n) (n - 2))) (h.set e (100, ar 10 (fun i => nI (tkQ g n q (n - 2) i)))))) (fun k hk ih => ?_) ?_
  · have ih : a_X1_rankOf_9 (d + 3) 0 0 c f (nI (rk n (tkN g n) k * n + tkN g n k)) (nI (k + 1)) (h.set e (100, ar 10 (fun i => nI (tkQ g n q (n - 2) i)))) (rI (nI (rk n (tkN g n) (n - 2))) (h.set e (100, ar 10 (fun i => nI (tkQ g n q (n - 2) i))))) := ih
    refine b_X1_rankOf_9 F2.1 rfl (s_codeLength (by omega)) (fun q => absurd q (nI_ge hk (by omega))) (fun _ => b_X1_rankOf_20 F2.1 rfl C2.1 (s_number C2 (show k < 10 by omega)) ?_)
    rw [nI_1, pk_mul, nI_add, tkQ_at _ _ hk]; exact ih
  · exact b_X1_rankOf_9 F2.1 rfl (s_codeLength (by omega)) (fun _ => b_X1_rankOf_39 ⟨rfl, rfl⟩) (fun q => absurd (nI_le (Nat.le_refl _) (by omega)) q)
/-- the code of a rank, from the last number on: with j numbers still to be laid -/
def srQ (n r : Nat) (q : Nat → Nat) : Nat → Nat → Nat
  | 0 => q
  | k + 1 => up1 (srQ n r q k) (n - 3 - k) (r / n ^ k % n)
theorem s_setRank {c e n r : Nat} {q : Nat → Nat} (C : CO h c e q) (hn : n ≤ 10) (hr : r < 2147483648) : MSE m_X1_setRank (d + 2) [.ref c, .int (nI n), .int (nI r)] h none (h.set e (100, ar 10 (fun i => nI (srQ n r q (n - 2) i)))) := by
  refine e_X1_setRank (b_X1_setRank_0 (s_codeLength (by omega)) ?_)
  have key := up_all (n := n - 2) (T := fun k => a_X1_setRank_10 (d + 2) 0 0 c (nI n) (nI (r / n ^ k)) (nI (n - 2 - k) - 1) (h.set e (100, ar 10 (fun i => nI (srQ n r q k i)))) (rV (h.set e (100, ar 10 (fun i => nI (srQ n r q (n - 2) i)))))) (fun k hk ih => ?_) ?_
  · have e0 : h.set e (100, ar 10 (fun i => nI (srQ n r q 0 i))) = h := hset_id C.2
    rw [e0, Nat.pow_zero, Nat.div_one, Nat.sub_zero] at key; exact key
  · have C2 := C.set (q' := srQ n r q k)
    have ih : a_X1_setRank_10 (d + 2) 0 0 c (nI n) (nI (r / n ^ (k + 1))) (nI (n - 2 - (k + 1)) - 1) (h.set e (100, ar 10 (fun i => nI (up1 (srQ n r q k) (n - 3 - k) (r / n ^ k % n) i)))) (rV (h.set e (100, ar 10 (fun i => nI (srQ n r q (n - 2) i))))) := ih
    have hq : r / n ^ k < 2147483648 := Nat.lt_of_le_of_lt (Nat.div_le_self _ _) hr
    have e1 : nI (n - 2 - k) - 1 = nI (n - 3 - k) := by
      rw [show n - 2 - k = (n - 3 - k) + 1 by omega, nI_pred]
    have e2 : nI (n - 3 - k) + (-1) = nI (n - 2 - (k + 1)) - 1 := by
      rw [show n - 2 - (k + 1) = n - 3 - k by omega]
      exact (Int32.sub_eq_add_neg _ _).symm
    have e3 : r / n ^ (k + 1) = r / n ^ k / n := by rw [Nat.pow_succ, Nat.div_div_eq_div_mul]
    rw [e1]
    refine b_X1_setRank_10 (fun q => absurd q (nI_pos (by omega))) (fun _ => b_X1_setRank_15 (fun q => absurd q (nI_nle (show 0 < n by omega) (by omega))) (fun _ => b_X1_setRank_19 (nI_ne0 (show 0 < n by omega) (by omega)) C2.1 (by rw [pk_rem hq (show 0 < n by omega) (by omega)]; exact s_setNumber C2 (show n - 3 - k < 10 by omega)) (nI_ne0 (show 0 < n by omega) (by omega)) ?_))
    rw [hset_hset, e2, pk_div hq (show 0 < n by omega) (by omega), ← e3]
    exact ih
  · rw [Nat.sub_self]
    exact b_X1_setRank_10 (fun _ => b_X1_setRank_38 ⟨rfl, rfl⟩) (fun q => absurd (show nI 0 - 1 < 0 by decide) q)
/-- the vertices that a part of the code names -/
def nmU (q : Nat → Nat) (i : Nat) : Nat → Nat
  | 0 => 0
  | k + 1 => nmU q i k ||| 2 ^ q (i + k)
theorem nmU_lt {q : Nat → Nat} {i : Nat} : ∀ k, (∀ j, j < k → q (i + j) < 10) → nmU q i k < 1024
  | 0, _ => (by decide : 0 < 1024)
  | k + 1, hq => or_lt (nmU_lt k (fun j hj => hq j (by omega))) (pow_lt (hq k (by omega)))
theorem s_namedFrom {c e i m : Nat} {q : Nat → Nat} (C : CO h c e q) (hq : ∀ i, i < m → q i < 10) (him : i ≤ m) (hm : m ≤ 10) : MSE m_X1_namedFrom (d + 1) [.ref c, .int (nI i), .int (nI m)] h (some (.int (nI (nmU q i (m - i))))) h := by
  refine e_X1_namedFrom (b_X1_namedFrom_0 ?_)
  refine up_all (n := m - i) (T := fun k => a_X1_namedFrom_5 (d + 1) 0 0 c (nI m) (nI (nmU q i k)) (nI (i + k)) h (rI (nI (nmU q i (m - i))) h)) (fun k hk ih => ?_) ?_
  · have ih : a_X1_namedFrom_5 (d + 1) 0 0 c (nI m) (nI (nmU q i k ||| 2 ^ q (i + k))) (nI (i + k + 1)) h (rI (nI (nmU q i (m - i))) h) := ih
    have := hq (i + k) (by omega)
    refine b_X1_namedFrom_5 (fun q => absurd q (nI_ge (show i + k < m by omega) (by omega))) (fun _ => b_X1_namedFrom_11 C.1 (s_number C (show i + k < 10 by omega)) ?_)
    rw [nI_1, i_shl1 (by omega), i_or]; exact ih
  · rw [show i + (m - i) = m by omega]
    exact b_X1_namedFrom_5 (fun _ => b_X1_namedFrom_28 ⟨rfl, rfl⟩) (fun q => absurd (nI_le (Nat.le_refl _) (by omega)) q)
/-- planting: what is left, the forest, after k steps -/
def plV (q : Nat → Nat) (n k left : Nat) : Option Nat := low (df left (nmU q k (n - 2 - k)))
def plL (q : Nat → Nat) (n : Nat) : Nat → Nat
  | 0 => al n
  | k + 1 => df (plL q n k) (2 ^ (plV q n k (plL q n k)).getD 0)
def plG (q : Nat → Nat) (n : Nat) : Nat → Nat → Nat
  | 0 => fun _ => 0
  | k + 1 => jn (plG q n k) ((plV q n k (plL q n k)).getD 0) (q k)
def plOk (q : Nat → Nat) (n : Nat) : Prop := ∀ k, k < n - 2 → ∃ v, plV q n k (plL q n k) = some v
theorem plL_lt {q : Nat → Nat} {n : Nat} (hn : n ≤ 10) : ∀ k, plL q n k < 2 ^ n
  | 0 => by
    have := Nat.two_pow_pos n
    show 2 ^ n - 1 < 2 ^ n
    omega
  | k + 1 => df_lt (plL_lt hn k)
/-- the tree with a code -/
def plT (q : Nat → Nat) (n : Nat) : Nat → Nat := match low (plL q n (n - 2)) with
  | none => plG q n (n - 2)
  | some u => match low (df (plL q n (n - 2)) (2 ^ u)) with
    | none => plG q n (n - 2)
    | some v => jn (plG q n (n - 2)) u v
theorem jn_lt2 {g : Nat → Nat} {u v n : Nat} (hg : ∀ j, g j < 2 ^ n) (hu : u < n) (hv : v < n) : ∀ j, jn g u v j < 2 ^ n :=
  up_lt (up_lt hg (Nat.or_lt_two_pow (hg u) (Nat.pow_lt_pow_right (by decide) hv))) (Nat.or_lt_two_pow (up_lt hg (Nat.or_lt_two_pow (hg u) (Nat.pow_lt_pow_right (by decide) hv)) v) (Nat.pow_lt_pow_right (by decide) hu))
theorem nm_bit {q : Nat → Nat} {i : Nat} : ∀ k j, j < k → (nmU q i k).testBit (q (i + j)) = true
  | 0, j, h => absurd h (Nat.not_lt_zero j)
  | k + 1, j, h => by
    unfold nmU
    rw [Nat.testBit_or, pow_bit]
    by_cases e : j = k
    · rw [e, decide_eq_true rfl, Bool.or_true]
    · rw [nm_bit k j (by omega), Bool.true_or]
theorem plV_ok {q : Nat → Nat} {n k v : Nat} (hn : n ≤ 10) (hk : k < n - 2) (h : plV q n k (plL q n k) = some v) : v < n ∧ (plL q n k).testBit v = true ∧ (nmU q k (n - 2 - k)).testBit v = false ∧ v ≠ q k := by
  have hb := low_bit h
  rw [df_bit, Bool.and_eq_true, Bool.not_eq_true'] at hb
  refine ⟨bit_lt (plL_lt hn k) hb.1, hb.1, hb.2, fun e => ?_⟩
  have := nm_bit (q := q) (i := k) (n - 2 - k) 0 (by omega)
  rw [Nat.add_zero, ← e, hb.2] at this
  cases this
theorem plG_lt {q : Nat → Nat} {n : Nat} (hn : n ≤ 10) (hq : ∀ i, i < n - 2 → q i < n) (ok : plOk q n) : ∀ k, k ≤ n - 2 → ∀ j, plG q n k j < 2 ^ n
  | 0, _ => fun _ => Nat.two_pow_pos n
  | k + 1, hk => by
    obtain ⟨v, hv⟩ := ok k (by omega)
    unfold plG
    rw [hv]
    exact jn_lt2 (plG_lt hn hq ok k (by omega)) (plV_ok hn (by omega) hv).1 (hq k (by omega))
theorem s_join0 {f a b n : Nat} {g w : Nat → Nat} (F : FO h f a b n g w) {u : Nat} {x : Int32} (hu : u < n) (hx : ∀ v, v < n → x ≠ nI v) : MSE m_X3_join (d + 1) [.ref f, .int (nI u), .int x] h none h :=
  e_X3_join (b_X3_join_0 F.1 (s_isVertex F hu) (fun q => absurd q (by decide)) (fun _ => b_X3_join_8 F.1 (s_isVertex0 F hx) (fun _ => b_X3_join_45 ⟨rfl, rfl⟩) (fun q => absurd rfl q)))
theorem m1_ne {n : Nat} (hn : n ≤ 10) : ∀ v, v < n → (-1 : Int32) ≠ nI v := fun v hv e => absurd (nI_pos (show v < 2147483648 by omega)) (by rw [← e]; decide)
theorem s_plant {f a b n c e : Nat} {g w q : Nat → Nat} (F : FO h f a b n g w) (C : CO h c e q) (hea : e ≠ a) (hq : ∀ i, i < n - 2 → q i < n) (ok : plOk q n) (h1 : 1 ≤ n) (hlast : ∃ u, low (plL q n (n - 2)) = some u) : MSE m_X1_plant (d + 2) [.ref c, .ref f] h none (h.set a (100, ar 10 (fun i => nI (plT q n i)))) := by
  have hn := F.le
  have haf : a ≠ c := hk_ne F.2.1 C.1 (by decide)
  have hlt : ∀ k, k ≤ n - 2 → ∀ j, plG q n k j < 1024 := fun k hk j => Nat.lt_of_lt_of_le (plG_lt hn hq ok k hk j) (pow_le10 hn)
  have hll : ∀ k, plL q n k < 1024 := fun k => Nat.lt_of_lt_of_le (plL_lt hn k) (pow_le10 hn)
  have F0 := F.near (g' := plG q n 0) (fun _ => (by decide : 0 < 1024))
  refine e_X1_plant (b_X1_plant_0 F.1 (s_dropEdges F) F0.1 (s_all F0) ?_)
  refine up_all (n := n - 2) (T := fun k => a_X1_plant_11 (d + 2) 0 0 c f (nI (plL q n k)) (nI k) (h.set a (100, ar 10 (fun i => nI (plG q n k i)))) (rV (h.set a (100, ar 10 (fun i => nI (plT q n i)))))) (fun k hk ih => ?_) ?_
  · have F2 := F.near (hlt k (by omega))
    have C2 := C.off (o := (100, ar 10 (fun i => nI (plG q n k i)))) haf (Ne.symm hea)
    obtain ⟨v, hv⟩ := ok k hk
    obtain ⟨v1, v2, v3, v4⟩ := plV_ok hn hk hv
    have hnm : nmU q k (n - 2 - k) < 1024 := nmU_lt _ (fun j hj => by have := hq (k + j) (by omega); omega)
    have m1 := s_lowest (d := d) (h := h.set a (100, ar 10 (fun i => nI (plG q n k i)))) (s := df (plL q n k) (nmU q k (n - 2 - k))) (by have := df_lt (b := nmU q k (n - 2 - k)) (k := 10) (hll k); omega)
    have hv' : low (df (plL q n k) (nmU q k (n - 2 - k))) = some v := hv
    rw [hv'] at m1
    have eL : plL q n (k + 1) = df (plL q n k) (2 ^ v) := by
      show df (plL q n k) (2 ^ (plV q n k (plL q n k)).getD 0) = _
      rw [hv]; rfl
    have eG : plG q n (k + 1) = jn (plG q n k) v (q k) := by
      show jn (plG q n k) ((plV q n k (plL q n k)).getD 0) (q k) = _
      rw [hv]; rfl
    refine b_X1_plant_11 F2.1 rfl (s_codeLength (by omega)) (fun q => absurd q (nI_ge hk (by omega))) (fun _ => b_X1_plant_22 (v7 := nI (nmU q k (n - 2 - k))) (v11 := nI v) (v17 := nI (q k)) F2.1 rfl (s_codeLength (by omega)) C2.1 (s_namedFrom C2 (fun i hi => by have := hq i hi; omega) (by omega) (by omega)) (by rw [i_df]; exact m1) C2.1 (s_number C2 (by omega)) F2.1 (s_join F2 v1 (hq k hk) v4) (s_without (by omega)) ?_)
    rw [nI_1, hset_hset, ← eL]
    have ih : a_X1_plant_11 (d + 2) 0 0 c f (nI (plL q n (k + 1))) (nI (k + 1)) (h.set a (100, ar 10 (fun i => nI (plG q n (k + 1) i)))) (rV (h.set a (100, ar 10 (fun i => nI (plT q n i))))) := ih
    rw [eG] at ih
    exact ih
  · have F2 := F.near (hlt (n - 2) (Nat.le_refl _))
    have hl := hll (n - 2)
    obtain ⟨u, hu⟩ := hlast
    have hun : u < n := bit_lt (plL_lt hn _) (low_bit hu)
    have m1 := s_lowest (d := d) (h := h.set a (100, ar 10 (fun i => nI (plG q n (n - 2) i)))) (s := plL q n (n - 2)) (by omega)
    rw [hu] at m1
    have hl2 : df (plL q n (n - 2)) (2 ^ u) < 1024 := df_lt (k := 10) hl
    have m2 := s_lowest (d := d) (h := h.set a (100, ar 10 (fun i => nI (plG q n (n - 2) i)))) (s := df (plL q n (n - 2)) (2 ^ u)) (by omega)
    refine b_X1_plant_11 F2.1 rfl (s_codeLength (by omega)) (fun _ => ?_) (fun q => absurd (nI_le (Nat.le_refl _) (by omega)) q)
    cases hv : low (df (plL q n (n - 2)) (2 ^ u)) with
    | none =>
      rw [hv] at m2
      have eT : plT q n = plG q n (n - 2) := by unfold plT; rw [hu]; simp only [hv]
      refine b_X1_plant_67 (v2 := nI u) m1 (s_without (by omega)) m2 F2.1 (s_join0 F2 hun (m1_ne hn)) ⟨rfl, ?_⟩
      rw [eT]
    | some v =>
      rw [hv] at m2
      have hvb := low_bit hv
      rw [df_bit, pow_bit, Bool.and_eq_true, Bool.not_eq_true', decide_eq_false_iff_not] at hvb
      have hvn : v < n := bit_lt (plL_lt hn _) hvb.1
      have eT : plT q n = jn (plG q n (n - 2)) u v := by unfold plT; rw [hu]; simp only [hv]
      refine b_X1_plant_67 (v2 := nI u) m1 (s_without (by omega)) m2 F2.1 (s_join F2 hun hvn hvb.2) ⟨rfl, ?_⟩
      rw [eT, hset_hset]
end
