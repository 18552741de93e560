/-! words of the reference. The row 76 of 121 ints is its memory -/
def isl (a b : Nat) : Bool := decide (a * 2 ^ (20 - 2 * bc 20 a) < b * 2 ^ (20 - 2 * bc 20 b))
/-- a word of so many pairs of signs -/
def WK (x : Nat) : Prop := 1 ≤ bc 20 x ∧ bc 20 x ≤ 10 ∧ x < 2 ^ (2 * bc 20 x)
theorem WK.lt {x : Nat} (h : WK x) : x < 1048576 := Nat.lt_of_lt_of_le h.2.2 (Nat.pow_le_pow_right (by decide) (by have := h.2.1; omega) : 2 ^ (2 * bc 20 x) ≤ 2 ^ 20)
theorem WK.al {x : Nat} (h : WK x) : x * 2 ^ (20 - 2 * bc 20 x) < 1048576 := by
  obtain ⟨h1, h2, h3⟩ := h
  have : x * 2 ^ (20 - 2 * bc 20 x) < 2 ^ (2 * bc 20 x) * 2 ^ (20 - 2 * bc 20 x) := Nat.mul_lt_mul_of_pos_right h3 (Nat.two_pow_pos _)
  rw [← Nat.pow_add, show 2 * bc 20 x + (20 - 2 * bc 20 x) = 20 by omega] at this
  exact this
theorem i_shl {x k : Nat} (hk : k < 32) (h : x * 2 ^ k < 4294967296) : nI x <<< (nI k &&& 31) = nI (x * 2 ^ k) := pk_shlN _ k (i_sl k hk) h
theorem bc_0 : ∀ k, bc k 0 = 0
  | 0 => rfl
  | k + 1 => by
    show 0 % 2 + bc k (0 / 2) = 0
    rw [Nat.zero_div, bc_0 k]
theorem bc_pad {j k x : Nat} (hx : x < 2 ^ j) : bc (j + k) x = bc j x := by
  have := bc_add j k 0 x hx
  rw [Nat.zero_mul, Nat.zero_add, bc_0, Nat.add_zero] at this
  exact this
theorem bc_20 {j x : Nat} (hj : j ≤ 20) (hx : x < 2 ^ j) : bc 20 x = bc j x := by
  have := bc_pad (k := 20 - j) hx
  rw [show j + (20 - j) = 20 by omega] at this
  exact this
theorem bc_cat {a x p q : Nat} (ha : a < 2 ^ (2 * p)) (hx : x < 2 ^ (2 * q)) (hpq : p + q ≤ 10) : bc 20 (a * 2 ^ (2 * q) + x) = bc 20 a + bc 20 x ∧ a * 2 ^ (2 * q) + x < 2 ^ (2 * (p + q)) := by
  have h1 := bc_add (2 * q) (20 - 2 * q) a x hx
  rw [show 2 * q + (20 - 2 * q) = 20 by omega] at h1
  have h2 := bc_20 (show 2 * q ≤ 20 by omega) hx
  have h3 := bc_20 (show 2 * p ≤ 20 by omega) ha
  have h4 : bc (20 - 2 * q) a = bc (2 * p) a := by
    have := bc_pad (k := 20 - 2 * q - 2 * p) ha
    rw [show 2 * p + (20 - 2 * q - 2 * p) = 20 - 2 * q by omega] at this
    exact this
  refine ⟨by omega, ?_⟩
  have h5 : (a + 1) * 2 ^ (2 * q) ≤ 2 ^ (2 * p) * 2 ^ (2 * q) := Nat.mul_le_mul_right _ ha
  rw [← Nat.pow_add, show 2 * p + 2 * q = 2 * (p + q) by omega, Nat.add_mul, Nat.one_mul] at h5
  omega
section
variable {d n : Nat} {c : Nat → List Value} {g : Nat → Nat} {h : ab_H}
theorem r_isLess {a b : Nat} (ha : WK a) (hb : WK b) : MSE m_X10_isLess (d + 2) [.int (nI a), .int (nI b)] h (some (.int (nI (if isl a b = true then 1 else 0)))) h := by
  have la := ha.al
  have lb := hb.al
  have ka := ha.2.1
  have kb := hb.2.1
  have ea : nI a <<< ((20 - 2 * nI (bc 20 a)) &&& 31) = nI (a * 2 ^ (20 - 2 * bc 20 a)) := by
    rw [show (2 : Int32) * nI (bc 20 a) = nI (2 * bc 20 a) from pk_mul 2 _, show (20 : Int32) - nI (2 * bc 20 a) = nI (20 - 2 * bc 20 a) from pk_sub (a := 20) (by omega)]
    exact i_shl (by omega) (by omega)
  have eb : nI b <<< ((20 - 2 * nI (bc 20 b)) &&& 31) = nI (b * 2 ^ (20 - 2 * bc 20 b)) := by
    rw [show (2 : Int32) * nI (bc 20 b) = nI (2 * bc 20 b) from pk_mul 2 _, show (20 : Int32) - nI (2 * bc 20 b) = nI (20 - 2 * bc 20 b) from pk_sub (a := 20) (by omega)]
    exact i_shl (by omega) (by omega)
  refine e_X10_isLess (b_X10_isLess_0 (r_ones20 ha.lt) (r_ones20 hb.lt) (fun q => b_X10_isLess_29 (b_X10_isLess_30 (by decide) ⟨?_, rfl⟩)) (fun q => b_X10_isLess_25 (b_X10_isLess_30 (by decide) ⟨?_, rfl⟩)))
  · rw [ea, eb] at q
    have e := (nI_leI (by omega) (by omega)).mp q
    unfold isl
    rw [decide_eq_false (by omega)]; rfl
  · rw [ea, eb] at q
    have e : ¬ b * 2 ^ (20 - 2 * bc 20 b) ≤ a * 2 ^ (20 - 2 * bc 20 a) := fun e => q (nI_le e (by omega))
    unfold isl
    rw [decide_eq_true (by omega)]; rfl
/-- into a list with the greatest word first -/
def insR (x : Nat) : List Nat → List Nat
  | [] => [x]
  | y :: r => if isl x y = true then y :: insR x r else x :: y :: r
theorem insR_len {x : Nat} : ∀ r, (insR x r).length = r.length + 1
  | [] => rfl
  | y :: r => by
    unfold insR
    split
    · rw [List.length_cons, insR_len r, List.length_cons]
    · rfl
def sumR : List Nat → Nat
  | [] => 0
  | x :: r => sumR r + bc 20 x
theorem insR_sum {x : Nat} : ∀ r, sumR (insR x r) = sumR r + bc 20 x
  | [] => rfl
  | y :: r => by
    unfold insR
    split
    · show sumR (insR x r) + bc 20 y = sumR r + bc 20 y + bc 20 x
      rw [insR_sum r]; omega
    · show sumR r + bc 20 y + bc 20 x = _
      rfl
theorem insR_c {x y : Nat} {r : List Nat} : insR x (y :: r) = if isl x y = true then y :: insR x r else x :: y :: r := rfl
theorem insR_mem {x z : Nat} (r : List Nat) (h : z ∈ insR x r) : z = x ∨ z ∈ r := by
  induction r with
  | nil =>
    have h : z ∈ [x] := h
    exact Or.inl (List.mem_singleton.mp h)
  | cons y r ih =>
    rw [insR_c] at h
    by_cases q : isl x y = true
    · rw [if_pos q] at h
      rcases List.mem_cons.mp h with e | h
      · exact Or.inr (by rw [e]; exact List.mem_cons_self)
      · rcases ih h with e | h
        · exact Or.inl e
        · exact Or.inr (List.mem_cons_of_mem _ h)
    · rw [if_neg q] at h
      rcases List.mem_cons.mp h with e | h
      · exact Or.inl e
      · exact Or.inr h
/-- the words of the children among the first u vertices -/
def kdR (rec : Nat → Nat) (ch : Nat → Bool) : Nat → List Nat
  | 0 => []
  | u + 1 => if ch u = true then insR (rec u) (kdR rec ch u) else kdR rec ch u
def catR : List Nat → Nat
  | [] => 0
  | x :: r => catR r * 2 ^ (2 * bc 20 x) + x
def chB (g : Nat → Nat) (v : Nat) (pa : Option Nat) (u : Nat) : Bool := (g v).testBit u && decide (pa ≠ some u)
/-- the word that hangs at v, away from pa, so many levels at most; its vertices; that the levels are enough -/
def Wd (g : Nat → Nat) (n : Nat) : Nat → Nat → Option Nat → Nat
  | 0, _, _ => 0
  | l + 1, v, pa => catR (kdR (fun u => Wd g n l u (some v)) (chB g v pa) n) * 2 + 1
def zsU (rec : Nat → Nat) (ch : Nat → Bool) : Nat → Nat
  | 0 => 0
  | u + 1 => if ch u = true then zsU rec ch u + rec u else zsU rec ch u
def zs (g : Nat → Nat) (n : Nat) : Nat → Nat → Option Nat → Nat
  | 0, _, _ => 1
  | l + 1, v, pa => zsU (fun u => zs g n l u (some v)) (chB g v pa) n + 1
def FT (g : Nat → Nat) (n : Nat) : Nat → Nat → Option Nat → Prop
  | 0, _, _ => False
  | l + 1, v, pa => ∀ u, u < n → chB g v pa u = true → FT g n l u (some v)
theorem zsU_le {rec : Nat → Nat} {ch : Nat → Bool} : ∀ j u, zsU rec ch u ≤ zsU rec ch (u + j)
  | 0, u => Nat.le_refl _
  | j + 1, u => by
    have := zsU_le (rec := rec) (ch := ch) j u
    show _ ≤ (if ch (u + j) = true then zsU rec ch (u + j) + rec (u + j) else zsU rec ch (u + j))
    split <;> omega
theorem zsU_at {rec : Nat → Nat} {ch : Nat → Bool} {u m : Nat} (hu : u < m) (hc : ch u = true) : rec u ≤ zsU rec ch m := by
  have := zsU_le (rec := rec) (ch := ch) (m - (u + 1)) (u + 1)
  rw [show u + 1 + (m - (u + 1)) = m by omega] at this
  have e : zsU rec ch (u + 1) = zsU rec ch u + rec u := if_pos hc
  omega
theorem catR_c {x : Nat} {r : List Nat} : catR (x :: r) = catR r * 2 ^ (2 * bc 20 x) + x := rfl
theorem sumR_c {x : Nat} {r : List Nat} : sumR (x :: r) = sumR r + bc 20 x := rfl
theorem catR_ok (r : List Nat) (hw : ∀ x ∈ r, WK x) (hs : sumR r ≤ 10) : bc 20 (catR r) = sumR r ∧ catR r < 2 ^ (2 * sumR r) := by
  induction r with
  | nil => exact ⟨bc_0 20, (Nat.two_pow_pos 0 : 0 < 2 ^ 0)⟩
  | cons x r ih =>
    rw [sumR_c] at hs
    obtain ⟨i1, i2⟩ := ih (fun y hy => hw y (List.mem_cons_of_mem _ hy)) (by omega)
    obtain ⟨b1, b2⟩ := bc_cat i2 (hw x List.mem_cons_self).2.2 hs
    rw [catR_c, sumR_c]
    exact ⟨by omega, b2⟩
theorem len_sum : ∀ r, (∀ x ∈ r, WK x) → r.length ≤ sumR r
  | [], _ => Nat.le_refl _
  | x :: r, hw => by
    have := len_sum r (fun y hy => hw y (List.mem_cons_of_mem _ hy))
    have h1 := (hw x List.mem_cons_self).1
    show r.length + 1 ≤ sumR r + bc 20 x
    omega
theorem kdR_ok {rec zr : Nat → Nat} {ch : Nat → Bool} : ∀ m, (∀ u, u < m → ch u = true → WK (rec u) ∧ bc 20 (rec u) = zr u) → (∀ x ∈ kdR rec ch m, WK x) ∧ sumR (kdR rec ch m) = zsU zr ch m
  | 0, _ => ⟨fun x hx => (List.not_mem_nil hx).elim, rfl⟩
  | m + 1, h => by
    obtain ⟨i1, i2⟩ := kdR_ok m (fun u hu hc => h u (by omega) hc)
    by_cases hc : ch m = true
    · obtain ⟨j1, j2⟩ := h m (by omega) hc
      have e1 : kdR rec ch (m + 1) = insR (rec m) (kdR rec ch m) := if_pos hc
      have e2 : zsU zr ch (m + 1) = zsU zr ch m + zr m := if_pos hc
      rw [e1, e2]
      refine ⟨fun x hx => ?_, by rw [insR_sum, i2, j2]⟩
      rcases insR_mem _ hx with e | hx
      · rw [e]; exact j1
      · exact i1 x hx
    · have e1 : kdR rec ch (m + 1) = kdR rec ch m := if_neg hc
      have e2 : zsU zr ch (m + 1) = zsU zr ch m := if_neg hc
      rw [e1, e2]
      exact ⟨i1, i2⟩
theorem Wd_ok : ∀ l v pa, FT g n l v pa → zs g n l v pa ≤ 10 → WK (Wd g n l v pa) ∧ bc 20 (Wd g n l v pa) = zs g n l v pa
  | 0, _, _, hf, _ => absurd hf id
  | l + 1, v, pa, hf, hz => by
    have hz : zsU (fun u => zs g n l u (some v)) (chB g v pa) n + 1 ≤ 10 := hz
    obtain ⟨k1, k2⟩ := kdR_ok (rec := fun u => Wd g n l u (some v)) (zr := fun u => zs g n l u (some v)) (ch := chB g v pa) n (fun u hu hc => Wd_ok l u (some v) (hf u hu hc) (by
      have := zsU_at (rec := fun u => zs g n l u (some v)) hu hc
      have this : zs g n l u (some v) ≤ zsU (fun u => zs g n l u (some v)) (chB g v pa) n := this
      omega))
    obtain ⟨c1, c2⟩ := catR_ok _ k1 (by omega)
    have e : Wd g n (l + 1) v pa = catR (kdR (fun u => Wd g n l u (some v)) (chB g v pa) n) * 2 + 1 := rfl
    have ez : zs g n (l + 1) v pa = zsU (fun u => zs g n l u (some v)) (chB g v pa) n + 1 := rfl
    generalize catR (kdR (fun u => Wd g n l u (some v)) (chB g v pa) n) = C at c1 c2 e
    rw [k2] at c1 c2
    have hb : bc 20 (C * 2 + 1) = bc 20 C + 1 := by
      have h1 := bc_add 1 19 C 1 (by decide)
      rw [show 1 + 19 = 20 by decide, show (2 : Nat) ^ 1 = 2 by decide, show bc 1 1 = 1 by decide] at h1
      have h2 := bc_20 (j := 2 * zsU (fun u => zs g n l u (some v)) (chB g v pa) n) (by omega) c2
      have h3 := bc_pad (k := 19 - 2 * zsU (fun u => zs g n l u (some v)) (chB g v pa) n) c2
      rw [show 2 * zsU (fun u => zs g n l u (some v)) (chB g v pa) n + (19 - 2 * zsU (fun u => zs g n l u (some v)) (chB g v pa) n) = 19 by omega] at h3
      omega
    rw [e, ez]
    refine ⟨⟨by omega, by omega, ?_⟩, by omega⟩
    rw [hb, c1]
    have : 2 ^ (2 * (zsU (fun u => zs g n l u (some v)) (chB g v pa) n + 1)) = 4 * 2 ^ (2 * zsU (fun u => zs g n l u (some v)) (chB g v pa) n) := by
      rw [show 2 * (zsU (fun u => zs g n l u (some v)) (chB g v pa) n + 1) = 2 * zsU (fun u => zs g n l u (some v)) (chB g v pa) n + 2 by omega, Nat.pow_add, Nat.mul_comm]
    rw [this]; omega
/-- the memory -/
def cK (c : Nat → List Value) (K : Nat → Nat) : Nat → List Value := up1 c 76 (ar 121 (fun i => nI (K i)))
theorem cK_s {K K' : Nat → Nat} : (hp (cK c K)).set 76 (100, ar 121 (fun i => nI (K' i))) = hp (cK c K') := by
  unfold cK
  rw [hp_set (by decide) (by decide), up1_up1]
theorem cK_H {K : Nat → Nat} : (hp (cK c K))[76]? = some (100, ar 121 (fun i => nI (K i))) := hp_is 76 100 (up1_same _ _ _) (by decide) (by decide)
theorem VW.off {X : VW c n g} {i : Nat} {v : List Value} (h : i ≠ 70 ∧ i ≠ 71 ∧ i ≠ 72) : VW (up1 c i v) n g := by
  obtain ⟨hn, hg, z, hz, hx⟩ := X
  refine ⟨hn, hg, z, (up1_ne _ _ (Ne.symm h.1)).trans hz, ?_⟩
  rcases hx with ⟨h1, h2, w, h3⟩ | ⟨h1, h2, w, h3⟩
  · exact Or.inl ⟨h1, h2, w, (up1_ne _ _ (Ne.symm h.2.1)).trans h3⟩
  · exact Or.inr ⟨h1, h2, w, (up1_ne _ _ (Ne.symm h.2.2)).trans h3⟩
theorem VW.k (X : VW c n g) {K : Nat → Nat} : VW (cK c K) n g := VW.off (X := X) (by decide)
theorem VW.M (X : VW c n g) : ∃ z, (hp c)[70]? = some (10, moL z) := by
  obtain ⟨-, -, z, hz, -⟩ := X
  exact ⟨z, mo_H hz⟩
theorem at121 {K : Nat → Nat} {i : Nat} (hi : i < 121) : (ar 121 (fun i => nI (K i)))[(nI i).toNatClampNeg]? = some (.int (nI (K i))) := by rw [cl_nI (by omega)]; exact ar_at _ hi
theorem ln121 {K : Nat → Nat} {i : Nat} (hi : i < 121) : (nI i).toNatClampNeg < (ar 121 (fun i => nI (K i))).length := by rw [cl_nI (by omega), ar_len]; exact hi
theorem st121 {K : Nat → Nat} {i x : Nat} (hi : i < 121) : (ar 121 (fun i => nI (K i))).set (nI i).toNatClampNeg (.int (nI x)) = ar 121 (fun j => nI (up1 K i x j)) := by
  rw [cl_nI (by omega), ar_set, ar_up]
/-- a list lies in the memory, its last one first -/
def KL (K : Nat → Nat) (b : Nat) : List Nat → Prop
  | [] => True
  | x :: r => K (b + r.length) = x ∧ KL K b r
theorem KL_ext {K K' : Nat → Nat} {b : Nat} : ∀ r, (∀ i, b ≤ i → i < b + r.length → K' i = K i) → KL K b r → KL K' b r
  | [], _, _ => trivial
  | x :: r, h, k => ⟨by
      rw [h (b + r.length) (by omega) (by rw [List.length_cons]; omega)]; exact k.1, KL_ext r (fun i h1 h2 => h i h1 (by rw [List.length_cons]; omega)) k.2⟩
/-- insertion in the memory -/
def insK (x : Nat) (b : Nat) : List Nat → (Nat → Nat) → (Nat → Nat)
  | [], K => up1 K b x
  | y :: r, K => if isl x y = true then insK x b r (up1 K (b + r.length + 1) y) else up1 K (b + r.length + 1) x
theorem insK_ne {x b : Nat} : ∀ r K i, i < b ∨ b + r.length < i → insK x b r K i = K i
  | [], K, i, h => up1_ne _ _ (by
      have h : i < b ∨ b + 0 < i := h
      omega)
  | y :: r, K, i, h => by
    have h : i < b ∨ b + (r.length + 1) < i := h
    unfold insK
    split
    · rw [insK_ne r _ i (by omega), up1_ne _ _ (by omega)]
    · exact up1_ne _ _ (by omega)
theorem insK_c {x b y : Nat} {r : List Nat} {K : Nat → Nat} : insK x b (y :: r) K = if isl x y = true then insK x b r (up1 K (b + r.length + 1) y) else up1 K (b + r.length + 1) x := rfl
theorem KL_c {K : Nat → Nat} {b x : Nat} {r : List Nat} : KL K b (x :: r) ↔ K (b + r.length) = x ∧ KL K b r := Iff.rfl
theorem insK_c1 {x b y : Nat} {r : List Nat} {K : Nat → Nat} (q : isl x y = true) : insK x b (y :: r) K = insK x b r (up1 K (b + r.length + 1) y) := if_pos q
theorem insK_c0 {x b y : Nat} {r : List Nat} {K : Nat → Nat} (q : isl x y = false) : insK x b (y :: r) K = up1 K (b + r.length + 1) x := if_neg (by rw [q]; decide)
theorem insR_c1 {x y : Nat} {r : List Nat} (q : isl x y = true) : insR x (y :: r) = y :: insR x r := if_pos q
theorem insR_c0 {x y : Nat} {r : List Nat} (q : isl x y = false) : insR x (y :: r) = x :: y :: r := if_neg (by rw [q]; decide)
theorem up1_off {K : Nat → Nat} {b m y : Nat} {r : List Nat} (hm : b + r.length ≤ m) (k : KL K b r) : KL (up1 K m y) b r := by
  apply KL_ext (K := K) r
  · intro i h1 h2
    exact up1_ne K y (show i ≠ m by omega)
  · exact k
theorem insK_KL {x b : Nat} (r : List Nat) : ∀ K, KL K b r → KL (insK x b r K) b (insR x r) := by
  induction r with
  | nil => intro K _; exact KL_c.mpr ⟨up1_same _ _ _, trivial⟩
  | cons y r ih =>
    intro K k
    have k1 : K (b + r.length) = y := k.1
    have k2 : KL K b r := k.2
    cases q : isl x y with
    | true =>
      have h1 := ih (up1 K (b + r.length + 1) y) (up1_off (Nat.le_succ _) k2)
      have h2 : insK x b r (up1 K (b + r.length + 1) y) (b + (insR x r).length) = y := by
        rw [insR_len, insK_ne r _ _ (Or.inr (by omega))]
        exact up1_same _ _ _
      rw [insK_c1 q, insR_c1 q]
      exact KL_c.mpr ⟨h2, h1⟩
    | false =>
      have h1 : KL (up1 K (b + r.length + 1) x) b r := up1_off (Nat.le_succ _) k2
      have h2 : up1 K (b + r.length + 1) x (b + r.length) = y := by
        rw [up1_ne K x (show b + r.length ≠ b + r.length + 1 by omega)]; exact k1
      rw [insK_c0 q, insR_c0 q]
      exact KL_c.mpr ⟨up1_same _ _ _, KL_c.mpr ⟨h2, h1⟩⟩
theorem ins_loop (X : VW c n g) {P : ab_O → ab_H → Prop} {l1 l2 l3 : Int32} {b k u x : Nat} (hx : WK x) (r : List Nat) : ∀ K, (∀ y ∈ r, WK y) → KL K b r → b + r.length < 121 →
    SW none m_X10_wordOf (d + 3) 0 0 127 [some (.ref 70), some (.int l1), some (.int l2), some (.int l3), some (.int (nI b)), some (.int (nI (k + 1))), some (.int (nI u)), none, none] [] (hp (cK c (insK x b r K))) P →
    a_X10_wordOf_59 (d + 3) 0 0 70 l1 l2 l3 (nI b) (nI k) (nI u) (nI x) (nI r.length) (hp (cK c K)) P := by
  induction r with
  | nil =>
    intro K _ _ hb kk
    obtain ⟨z, H⟩ := (X.k (K := K)).M
    have hb : b < 121 := hb
    have e0 : nI b + nI ([] : List Nat).length = nI b := nI_add _ _
    refine b_X10_wordOf_59 (fun _ => b_X10_wordOf_112 H rfl cK_H (by rw [e0]; exact nI_pos (by omega)) (by rw [e0]; exact ln121 hb) ?_) (fun q => absurd (show nI ([] : List Nat).length ≤ 0 by decide) q)
    rw [e0, st121 hb, cK_s, nI_1]
    exact kk
  | cons y r ih =>
    intro K hw hk hb kk
    obtain ⟨z, H⟩ := (X.k (K := K)).M
    have hb : b + (r.length + 1) < 121 := hb
    have e1 : nI b + nI (y :: r).length - 1 = nI (b + r.length) := by
      rw [nI_add, show b + (y :: r).length = b + r.length + 1 from rfl, nI_pred]
    have e2 : nI b + nI (y :: r).length = nI (b + r.length + 1) := nI_add _ _
    rw [insK_c] at kk
    refine b_X10_wordOf_59 (fun q => absurd q (nI_nle (show 0 < r.length + 1 by omega) (by omega))) (fun _ => b_X10_wordOf_64 H rfl cK_H (by rw [e1]; exact nI_pos (by omega)) (by rw [e1]; exact at121 (by omega)) (by rw [hk.1]; exact r_isLess hx (hw y List.mem_cons_self)) (fun q => ?_) (fun q => ?_))
    · rw [if_neg (by rw [h01.mp q]; decide)] at kk
      refine b_X10_wordOf_112 H rfl cK_H (by rw [e2]; exact nI_pos (by omega)) (by rw [e2]; exact ln121 (by omega)) ?_
      rw [e2, st121 (by omega), cK_s, nI_1]
      exact kk
    · rw [if_pos (tb_of q)] at kk
      refine b_X10_wordOf_84 (x13 := nI (K (b + r.length))) H rfl H rfl cK_H (by rw [e1]; exact nI_pos (by omega)) (by rw [e1]; exact at121 (by omega)) cK_H (by rw [e2]; exact nI_pos (by omega)) (by rw [e2]; exact ln121 (by omega)) ?_
      rw [e2, st121 (by omega), cK_s, hk.1, show nI (y :: r).length + (-1) = nI r.length from pk_m1 r.length]
      exact ih _ (fun y' hy' => hw y' (List.mem_cons_of_mem _ hy')) (KL_ext r (fun i h1 h2 => up1_ne _ _ (by omega)) hk.2) (by omega) kk
end
