abbrev rI (x : Int32) (h0 : ab_H) : ab_O → ab_H → Prop := fun o k => o = .inl (some (.int x)) ∧ k = h0
abbrev rV (h0 : ab_H) : ab_O → ab_H → Prop := fun o k => o = .inl none ∧ k = h0
theorem nI_cl {k n : Nat} (hk : k < n) (hn : n ≤ 10) : (nI k).toNatClampNeg = k := cl_nI (by omega)
theorem tb_of {b : Bool} (q : ¬ nI (if b = true then 1 else 0) = 0) : b = true := by
  cases b
  · exact absurd rfl q
  · rfl
/-- a set with the neighbors of its first k vertices -/
def wnU (g : Nat → Nat) (s : Nat) : Nat → Nat
  | 0 => s
  | k + 1 => if s.testBit k = true then wnU g s k ||| g k else wnU g s k
def wn (g : Nat → Nat) (n s : Nat) : Nat := wnU g s n
theorem wnU_lt {g : Nat → Nat} (hg : ∀ i, g i < 1024) {s : Nat} (hs : s < 1024) : ∀ k, wnU g s k < 1024
  | 0 => hs
  | k + 1 => by
    unfold wnU; split
    · exact or_lt (wnU_lt hg hs k) (hg k)
    · exact wnU_lt hg hs k
/-- k rounds of it, within the set A -/
def rcU (g : Nat → Nat) (n A : Nat) : Nat → Nat → Nat
  | 0, s => s
  | k + 1, s => rcU g n A k (wn g n s &&& A)
def rc (g : Nat → Nat) (n A v : Nat) : Nat := rcU g n A n (2 ^ v)
def comp (g : Nat → Nat) (n v : Nat) : Nat := rc g n (al n) v
theorem rcU_stay {g : Nat → Nat} {n A s : Nat} (h : wn g n s &&& A = s) : ∀ k, rcU g n A k s = s
  | 0 => rfl
  | k + 1 => by
    show rcU g n A k (wn g n s &&& A) = s
    rw [h]; exact rcU_stay h k
theorem and_lt {x y : Nat} (hx : x < 1024) : x &&& y < 1024 := Nat.lt_of_le_of_lt Nat.and_le_left hx
theorem rcU_lt {g : Nat → Nat} {n A : Nat} (hg : ∀ i, g i < 1024) : ∀ k s, s < 1024 → rcU g n A k s < 1024
  | 0, _, h => h
  | k + 1, s, h => rcU_lt hg k _ (and_lt (wnU_lt hg h n))
theorem rc_lt {g : Nat → Nat} {n A v : Nat} (hg : ∀ i, g i < 1024) (hv : v < 10) : rc g n A v < 1024 := rcU_lt hg n _ (pow_lt hv)
/-- from s, after k steps, with j rounds left, where b is met -/
def dsU (g : Nat → Nat) (n b : Nat) : Nat → Nat → Nat → Option Nat
  | 0, _, _ => none
  | j + 1, k, s => if s.testBit b = true then some k else dsU g n b j (k + 1) (wn g n s)
def ds (g : Nat → Nat) (n a b : Nat) : Option Nat := dsU g n b n 0 (2 ^ a)
def ecU (g : Nat → Nat) (n : Nat) : Nat → Nat → Nat → Nat
  | 0, _, _ => n - 1
  | j + 1, k, s => if wn g n s = s then k else ecU g n j (k + 1) (wn g n s)
def ec (g : Nat → Nat) (n v : Nat) : Nat := ecU g n n 0 (2 ^ v)
/-- a value over the first k vertices of a set: the greatest -/
def mxU (m : Nat) (e : Nat → Nat) : Nat → Nat
  | 0 => 0
  | k + 1 => if m.testBit k = true then max (mxU m e k) (e k) else mxU m e k
/-- .. the sum -/
def smU (m : Nat) (e : Nat → Nat) : Nat → Nat
  | 0 => 0
  | k + 1 => if m.testBit k = true then smU m e k + e k else smU m e k
/-- the vertices below k with a property, as a set -/
def stU (p : Nat → Bool) : Nat → Nat
  | 0 => 0
  | k + 1 => if p k = true then stU p k ||| 2 ^ k else stU p k
theorem mxU_s {m : Nat} {e : Nat → Nat} {k : Nat} : mxU m e (k + 1) = if m.testBit k = true then max (mxU m e k) (e k) else mxU m e k := rfl
theorem smU_s {m : Nat} {e : Nat → Nat} {k : Nat} : smU m e (k + 1) = if m.testBit k = true then smU m e k + e k else smU m e k := rfl
theorem stU_s {p : Nat → Bool} {k : Nat} : stU p (k + 1) = if p k = true then stU p k ||| 2 ^ k else stU p k := rfl
theorem stU_lt {p : Nat → Bool} : ∀ k, k ≤ 10 → stU p k < 1024
  | 0, _ => (by decide : 0 < 1024)
  | k + 1, h => by
    unfold stU; split
    · exact or_lt (stU_lt k (by omega)) (pow_lt (by omega))
    · exact stU_lt k (by omega)
theorem stU_bit {p : Nat → Bool} : ∀ k j, (stU p k).testBit j = (decide (j < k) && p j)
  | 0, j => by simp [stU]
  | k + 1, j => by
    unfold stU
    by_cases hk : p k = true
    · rw [if_pos hk, Nat.testBit_or, stU_bit k j, pow_bit]
      by_cases hj : j = k
      · subst hj; simp [hk]
      · have e1 : decide (k = j) = false := decide_eq_false (fun q => hj q.symm)
        have e2 : decide (j < k + 1) = decide (j < k) := by
          by_cases h : j < k
          · rw [decide_eq_true h, decide_eq_true (by omega)]
          · rw [decide_eq_false h, decide_eq_false (by omega)]
        rw [e1, e2, Bool.or_false]
    · rw [if_neg hk, stU_bit k j]
      by_cases hj : j = k
      · subst hj
        have : p j = false := by cases h : p j with
          | false => rfl
          | true => exact absurd h hk
        simp [this]
      · have e2 : decide (j < k + 1) = decide (j < k) := by
          by_cases h : j < k
          · rw [decide_eq_true h, decide_eq_true (by omega)]
          · rw [decide_eq_false h, decide_eq_false (by omega)]
        rw [e2]
theorem mxU_le {m B : Nat} {e : Nat → Nat} (h : ∀ i, e i ≤ B) : ∀ k, mxU m e k ≤ B
  | 0 => Nat.zero_le _
  | k + 1 => by
    unfold mxU; split
    · exact Nat.max_le.mpr ⟨mxU_le h k, h k⟩
    · exact mxU_le h k
theorem smU_le {m B : Nat} {e : Nat → Nat} (h : ∀ i, e i ≤ B) : ∀ k, smU m e k ≤ k * B
  | 0 => Nat.zero_le _
  | k + 1 => by
    have := smU_le (m := m) h k
    have h2 := h k
    unfold smU
    rw [Nat.succ_mul]
    split <;> omega
theorem ecU_le {g : Nat → Nat} {n : Nat} : ∀ j k s, k + j ≤ n → ecU g n j k s ≤ n
  | 0, _, _, _ => Nat.sub_le _ _
  | j + 1, k, s, h => by
    unfold ecU; split
    · omega
    · exact ecU_le j (k + 1) _ (by omega)
theorem ec_le {g : Nat → Nat} {n v : Nat} : ec g n v ≤ n := ecU_le n 0 _ (by omega)
section
variable {d : Nat} {h : ab_H} {f a b n : Nat} {g w : Nat → Nat}
theorem s_withNeighbors (F : FO h f a b n g w) {s : Nat} (hs : s < 1024) : MSE m_X3_withNeighbors (d + 1) [.ref f, .int (nI s)] h (some (.int (nI (wn g n s)))) h := by
  have hn := F.le
  refine e_X3_withNeighbors (b_X3_withNeighbors_0 ?_)
  refine up_all (n := n) (T := fun k => a_X3_withNeighbors_4 (d + 1) 0 0 f (nI s) (nI (wnU g s k)) (nI k) h (rI (nI (wn g n s)) h)) (fun k hk ih => ?_) ?_
  · have ih : a_X3_withNeighbors_4 (d + 1) 0 0 f (nI s) (nI (wnU g s (k + 1))) (nI (k + 1)) h (rI (nI (wn g n s)) h) := ih
    refine b_X3_withNeighbors_4 F.1 rfl (fun q => absurd q (nI_ge hk F.n31)) (fun _ => b_X3_withNeighbors_12 (s_holds (by omega) (by omega)) (fun q => b_X3_withNeighbors_29 ?_) (fun q => b_X3_withNeighbors_20 F.1 rfl F.2.1 (nI_pos (by omega)) (by rw [nI_cl hk hn]; exact ar_at _ (by omega)) (b_X3_withNeighbors_29 ?_)))
    · rw [nI_1]
      unfold wnU at ih
      rw [if_neg (by rw [h01.mp q]; decide)] at ih
      exact ih
    · rw [nI_1, i_or]
      unfold wnU at ih
      rw [if_pos (tb_of q)] at ih
      exact ih
  · exact b_X3_withNeighbors_4 F.1 rfl (fun _ => b_X3_withNeighbors_35 ⟨rfl, rfl⟩) (fun q => absurd (nI_le (Nat.le_refl n) F.n31) q)
theorem s_reachable (F : FO h f a b n g w) {v A : Nat} (hv : v < 10) : MSE m_X3_reachable (d + 2) [.ref f, .int (nI v), .int (nI A)] h (some (.int (nI (rc g n A v)))) h := by
  have hn := F.le
  refine e_X3_reachable (b_X3_reachable_0 ?_)
  rw [i_shl1 (by omega)]
  have key : ∀ j k s, k + j = n → s < 1024 → a_X3_reachable_7 (d + 2) 0 0 f (nI A) (nI s) (nI k) h (rI (nI (rcU g n A j s)) h) := by
    intro j
    induction j with
    | zero =>
      intro k s hk hs
      exact b_X3_reachable_7 F.1 rfl (fun _ => b_X3_reachable_42 ⟨rfl, rfl⟩) (fun q => absurd (nI_le (show n ≤ k by omega) (by omega)) q)
    | succ j ih =>
      intro k s hk hs
      have hw := wnU_lt F.2.2.2.2.2 hs n
      have hwA : wn g n s &&& A < 1024 := and_lt hw
      refine b_X3_reachable_7 F.1 rfl (fun q => absurd q (nI_ge (show k < n by omega) F.n31)) (fun _ => b_X3_reachable_16 F.1 (s_withNeighbors F hs) (fun q => b_X3_reachable_33 ?_) (fun q => b_X3_reachable_31 ⟨?_, rfl⟩))
      · rw [i_and, nI_1]
        exact ih (k + 1) _ (by omega) hwA
      · rw [i_and] at q
        have e := (i_eq (by omega) (by omega)).mp q
        rw [rcU_stay e]
  exact key n 0 _ (by omega) (pow_lt hv)
theorem s_componentWith (F : FO h f a b n g w) {v : Nat} (hv : v < 10) : MSE m_X3_componentWith (d + 3) [.ref f, .int (nI v)] h (some (.int (nI (comp g n v)))) h :=
  e_X3_componentWith (b_X3_componentWith_0 F.1 (s_all F) F.1 (s_reachable F hv) ⟨rfl, rfl⟩)
theorem s_steps (F : FO h f a b n g w) {u v : Nat} (hu : u < 10) (hv : v < 10) : MSE m_X3_steps (d + 2) [.ref f, .int (nI u), .int (nI v)] h (some (.int (iO (ds g n u v)))) h := by
  have hn := F.le
  refine e_X3_steps (b_X3_steps_0 ?_)
  rw [i_shl1 (by omega)]
  have key : ∀ j k s, k + j = n → s < 1024 → a_X3_steps_7 (d + 2) 0 0 f (nI v) (nI s) (nI k) h (rI (iO (dsU g n v j k s)) h) := by
    intro j
    induction j with
    | zero =>
      intro k s hk hs
      exact b_X3_steps_7 F.1 rfl (fun _ => b_X3_steps_39 ⟨rfl, rfl⟩) (fun q => absurd (nI_le (show n ≤ k by omega) (by omega)) q)
    | succ j ih =>
      intro k s hk hs
      have hw := wnU_lt F.2.2.2.2.2 hs n
      refine b_X3_steps_7 F.1 rfl (fun q => absurd q (nI_ge (show k < n by omega) F.n31)) (fun _ => b_X3_steps_16 (s_holds (by omega) (by omega)) (fun q => b_X3_steps_27 F.1 (s_withNeighbors F hs) ?_) (fun q => b_X3_steps_24 ⟨?_, rfl⟩))
      · rw [nI_1]
        have := ih (k + 1) _ (by omega) hw
        unfold dsU
        rw [if_neg (by rw [h01.mp q]; decide)]
        exact this
      · unfold dsU
        rw [if_pos (tb_of q)]; rfl
  exact key n 0 _ (by omega) (pow_lt hu)
theorem s_eccentricity (F : FO h f a b n g w) {v : Nat} (hv : v < 10) (h1 : 1 ≤ n) : MSE m_X3_eccentricity (d + 2) [.ref f, .int (nI v)] h (some (.int (nI (ec g n v)))) h := by
  have hn := F.le
  refine e_X3_eccentricity (b_X3_eccentricity_0 ?_)
  rw [i_shl1 (by omega)]
  have key : ∀ j k s, k + j = n → s < 1024 → a_X3_eccentricity_6 (d + 2) 0 0 f (nI s) (nI k) h (rI (nI (ecU g n j k s)) h) := by
    intro j
    induction j with
    | zero =>
      intro k s hk hs
      refine b_X3_eccentricity_6 F.1 rfl (fun _ => b_X3_eccentricity_38 F.1 rfl ⟨?_, rfl⟩) (fun q => absurd (nI_le (show n ≤ k by omega) (by omega)) q)
      exact congrArg (fun x => Sum.inl (some (Value.int x))) (pk_sub (a := n) (b := 1) h1)
    | succ j ih =>
      intro k s hk hs
      have hw := wnU_lt F.2.2.2.2.2 hs n
      refine b_X3_eccentricity_6 F.1 rfl (fun q => absurd q (nI_ge (show k < n by omega) F.n31)) (fun _ => b_X3_eccentricity_14 F.1 (s_withNeighbors F hs) (fun q => b_X3_eccentricity_29 ?_) (fun q => b_X3_eccentricity_27 ⟨?_, rfl⟩))
      · rw [nI_1]
        have := ih (k + 1) _ (by omega) hw
        unfold ecU
        rw [if_neg (fun e => q (by rw [e]))]
        exact this
      · have hw' : wn g n s < 1024 := hw
        have e := (i_eq (by omega) (by omega)).mp q
        unfold ecU
        rw [if_pos e]
  exact key n 0 _ (by omega) (pow_lt hv)
theorem s_diameter (F : FO h f a b n g w) {m : Nat} (hm : m < 1024) (h1 : 1 ≤ n) : MSE m_X3_diameter (d + 3) [.ref f, .int (nI m)] h (some (.int (nI (mxU m (ec g n) n)))) h := by
  have hn := F.le
  refine e_X3_diameter (b_X3_diameter_0 ?_)
  refine up_all (n := n) (T := fun k => a_X3_diameter_4 (d + 3) 0 0 f (nI m) (nI (mxU m (ec g n) k)) (nI k) h (rI (nI (mxU m (ec g n) n)) h)) (fun k hk ih => ?_) ?_
  · have ih : a_X3_diameter_4 (d + 3) 0 0 f (nI m) (nI (mxU m (ec g n) (k + 1))) (nI (k + 1)) h (rI (nI (mxU m (ec g n) n)) h) := ih
    have hl : mxU m (ec g n) k ≤ n := mxU_le (fun _ => ec_le) k
    have hl2 : ec g n k ≤ n := ec_le
    refine b_X3_diameter_4 F.1 rfl (fun q => absurd q (nI_ge hk F.n31)) (fun _ => b_X3_diameter_12 (s_holds (by omega) (by omega)) (fun q => b_X3_diameter_30 ?_) (fun q => b_X3_diameter_20 F.1 (s_eccentricity F (by omega) h1) (s_maxN (by omega) (by omega)) (b_X3_diameter_30 ?_)))
    · rw [nI_1]
      rw [mxU_s] at ih
      rw [if_neg (by rw [h01.mp q]; decide)] at ih
      exact ih
    · rw [nI_1]
      rw [mxU_s] at ih
      rw [if_pos (tb_of q)] at ih
      exact ih
  · exact b_X3_diameter_4 F.1 rfl (fun _ => b_X3_diameter_36 ⟨rfl, rfl⟩) (fun q => absurd (nI_le (Nat.le_refl n) F.n31) q)
end
