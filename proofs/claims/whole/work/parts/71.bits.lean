/-! ones of numbers of twenty bits, as the JDK counts them -/
def bc : Nat → Nat → Nat
  | 0, _ => 0
  | k + 1, s => s % 2 + bc k (s / 2)
theorem bc_add : ∀ j k a b, b < 2 ^ j → bc (j + k) (a * 2 ^ j + b) = bc j b + bc k a
  | 0, k, a, b, h => by
    have : b = 0 := by rw [Nat.pow_zero] at h; omega
    subst this
    rw [Nat.zero_add, Nat.pow_zero, Nat.mul_one, Nat.add_zero]
    show bc k a = 0 + bc k a
    omega
  | j + 1, k, a, b, h => by
    have e1 : a * 2 ^ (j + 1) = 2 * (a * 2 ^ j) := by rw [Nat.pow_succ, ← Nat.mul_assoc, Nat.mul_comm]
    have h2 : 2 ^ (j + 1) = 2 * 2 ^ j := by rw [Nat.pow_succ, Nat.mul_comm]
    have e2 : (a * 2 ^ (j + 1) + b) % 2 = b % 2 := by rw [e1]; omega
    have e3 : (a * 2 ^ (j + 1) + b) / 2 = a * 2 ^ j + b / 2 := by rw [e1]; omega
    have ih := bc_add j k a (b / 2) (by omega)
    have e4 : j + 1 + k = (j + k) + 1 := by omega
    rw [e4]
    show (a * 2 ^ (j + 1) + b) % 2 + bc (j + k) ((a * 2 ^ (j + 1) + b) / 2) = b % 2 + bc j (b / 2) + bc k a
    rw [e2, e3, ih]; omega
theorem and_split (x m a e : Nat) (ha : a < 256) (he : e < 256) : (x * 256 + a) &&& (m * 256 + e) = (x &&& m) * 256 + (a &&& e) := by
  apply Nat.eq_of_testBit_eq
  intro i
  have hae : a &&& e < 2 ^ 8 := Nat.lt_of_le_of_lt Nat.and_le_left ha
  have k := fun (u v : Nat) (hv : v < 2 ^ 8) => Nat.testBit_two_pow_mul_add u hv i
  have c := fun u : Nat => Nat.mul_comm u 256
  rw [Nat.testBit_and, c x, c m, c (x &&& m)]
  have k1 := k x a ha
  have k2 := k m e he
  have k3 := k (x &&& m) (a &&& e) hae
  rw [show (256 : Nat) = 2 ^ 8 by decide, k1, k2, k3]
  split
  · rw [Nat.testBit_and]
  · rw [Nat.testBit_and]
/-- the steps, on numbers -/
def bf1 (x m : Nat) : Nat := x - ((x / 2) &&& m)
def bf2 (x m : Nat) : Nat := (x &&& m) + ((x / 4) &&& m)
def bf3 (x m : Nat) : Nat := (x + x / 16) &&& m
theorem by1 : ∀ t, t < 2 → ∀ a, a < 256 → (t * 128 + a / 2) &&& 85 = (a / 2) &&& 85 := by decide +kernel
theorem by2 : ∀ t, t < 4 → ∀ a, a < 256 → (t * 64 + a / 4) &&& 51 = (a / 4) &&& 51 := by decide +kernel
theorem bf1_s (x m a : Nat) (ha : a < 256) : bf1 (x * 256 + a) (m * 256 + 85) = bf1 x m * 256 + bf1 a 85 ∧ (x / 2) &&& m ≤ x ∧ (a / 2) &&& 85 ≤ a := by
  have e1 : (x * 256 + a) / 2 = (x / 2) * 256 + ((x % 2) * 128 + a / 2) := by omega
  have l1 : (x / 2) &&& m ≤ x := Nat.le_trans Nat.and_le_left (Nat.div_le_self _ _)
  have l2 : (a / 2) &&& 85 ≤ a := Nat.le_trans Nat.and_le_left (Nat.div_le_self _ _)
  refine ⟨?_, l1, l2⟩
  unfold bf1
  rw [e1, and_split _ _ _ _ (by omega) (by decide), by1 _ (by omega) a ha]
  have := Nat.sub_mul x (x / 2 &&& m) 256
  omega
theorem bf1_lt : ∀ a, a < 256 → bf1 a 85 < 256 := by decide +kernel
theorem bf2_s (x m a : Nat) (ha : a < 256) : bf2 (x * 256 + a) (m * 256 + 51) = bf2 x m * 256 + bf2 a 51 := by
  have e1 : (x * 256 + a) / 4 = (x / 4) * 256 + ((x % 4) * 64 + a / 4) := by omega
  unfold bf2
  rw [e1, and_split _ _ _ _ ha (by decide), and_split _ _ _ _ (by omega) (by decide), by2 _ (by omega) a ha]
  clear e1
  generalize (x &&& m) = A
  generalize (x / 4 &&& m) = B
  generalize (a &&& 51) = C
  generalize (a / 4 &&& 51) = D
  omega
theorem by_b : ∀ a, a < 256 → (bf2 (bf1 a 85) 51 ≤ 68 ∧ bf2 (bf1 a 85) 51 % 16 ≤ 4) ∧ bf3 (bf2 (bf1 a 85) 51) 15 = bc 8 a ∧ bc 8 a ≤ 8 := by decide +kernel
theorem by_c : ∀ a, a < 16 → bf1 a 21845 = bf1 a 85 ∧ bf2 (bf1 a 85) 13107 = bf2 (bf1 a 85) 51 ∧ bf2 (bf1 a 85) 51 % 16 ≤ 4 ∧ bf3 (bf2 (bf1 a 85) 51) 3855 = bc 4 a ∧ bc 4 a ≤ 4 := by decide +kernel
theorem bf3_s (x m a : Nat) (ha : a ≤ 68) (hx : x % 16 ≤ 4) : bf3 (x * 256 + a) (m * 256 + 15) = bf3 x m * 256 + ((a + ((x % 16) * 16 + a / 16)) &&& 15) := by
  have e1 : (x * 256 + a) + (x * 256 + a) / 16 = (x + x / 16) * 256 + (a + ((x % 16) * 16 + a / 16)) := by omega
  unfold bf3
  rw [e1, and_split _ _ _ _ (by omega) (by decide)]
theorem by3 : ∀ t, t ≤ 4 → ∀ a, a ≤ 68 → (a + (t * 16 + a / 16)) &&& 15 = (a + a / 16) &&& 15 := by decide +kernel
def bfN (s : Nat) : Nat := bf3 (bf2 (bf1 s 1431655765) 858993459) 252645135
theorem bfN_b (b2 b1 b0 : Nat) (h2 : b2 < 16) (h1 : b1 < 256) (h0 : b0 < 256) : bfN ((b2 * 256 + b1) * 256 + b0) = (bc 4 b2 * 256 + bc 8 b1) * 256 + bc 8 b0 := by
  obtain ⟨⟨y1, y1'⟩, y2, y3⟩ := by_b b1 h1
  obtain ⟨⟨x1, x1'⟩, x2, x3⟩ := by_b b0 h0
  obtain ⟨z1, z2, z3, z4, z5⟩ := by_c b2 h2
  have a1 := (bf1_s (b2 * 256 + b1) 5592405 b0 h0).1
  have a2 := (bf1_s b2 21845 b1 h1).1
  have b1l := bf1_lt b1 h1
  have b0l := bf1_lt b0 h0
  have c1 := bf2_s (bf1 b2 21845 * 256 + bf1 b1 85) 3355443 (bf1 b0 85) b0l
  have c2 := bf2_s (bf1 b2 21845) 13107 (bf1 b1 85) b1l
  unfold bfN
  rw [show (1431655765 : Nat) = 5592405 * 256 + 85 by decide, a1, show (5592405 : Nat) = 21845 * 256 + 85 by decide, a2, show (858993459 : Nat) = 3355443 * 256 + 51 by decide, c1, show (3355443 : Nat) = 13107 * 256 + 51 by decide, c2, z1, z2]
  generalize hp2 : bf2 (bf1 b2 85) 51 = p2 at z3 z4 ⊢
  generalize hp1 : bf2 (bf1 b1 85) 51 = p1 at y1 y1' y2 ⊢
  generalize hp0 : bf2 (bf1 b0 85) 51 = p0 at x1 x1' x2 ⊢
  have d1 := bf3_s (p2 * 256 + p1) 986895 p0 x1 (by omega)
  have d2 := bf3_s p2 3855 p1 y1 z3
  rw [show (252645135 : Nat) = 986895 * 256 + 15 by decide, d1, show (986895 : Nat) = 3855 * 256 + 15 by decide, d2, z4, by3 _ (by omega) p0 x1, by3 _ z3 p1 y1]
  unfold bf3 at x2 y2
  rw [x2, y2]
theorem bfN_ok {s : Nat} (hs : s < 1048576) : ∃ c2 c1 c0, bfN s = (c2 * 256 + c1) * 256 + c0 ∧ c2 ≤ 4 ∧ c1 ≤ 8 ∧ c0 ≤ 8 ∧ bc 20 s = c0 + c1 + c2 := by
  obtain ⟨b2, b1, b0, e, h2, h1, h0⟩ : ∃ b2 b1 b0, s = (b2 * 256 + b1) * 256 + b0 ∧ b2 < 16 ∧ b1 < 256 ∧ b0 < 256 := ⟨s / 65536, s / 256 % 256, s % 256, by omega, by omega, by omega, by omega⟩
  subst e
  refine ⟨bc 4 b2, bc 8 b1, bc 8 b0, bfN_b b2 b1 b0 h2 h1 h0, (by_c b2 h2).2.2.2.2, (by_b b1 h1).2.2, (by_b b0 h0).2.2, ?_⟩
  have e1 := bc_add 8 12 (b2 * 256 + b1) b0 (by omega)
  have e2 := bc_add 8 4 b2 b1 (by omega)
  rw [show (2 : Nat) ^ 8 = 256 by decide] at e1 e2
  rw [e1, e2]; omega
theorem i_ush {x k : Nat} (hx : x < 4294967296) (hk : k = 1 ∨ k = 2 ∨ k = 4 ∨ k = 8 ∨ k = 16) : ((nI x).toUInt32 >>> ((nI k).toUInt32 &&& Int32.toUInt32 31)).toInt32 = nI (x / 2 ^ k) := by
  rcases hk with rfl | rfl | rfl | rfl | rfl <;> exact pk_ushrN hx _ _ (by decide)
theorem ab_bc20 {s : Nat} (hs : s < 1048576) : ab_bc (nI s) = nI (bc 20 s) := by
  obtain ⟨c2, c1, c0, e, h2, h1, h0, hb⟩ := bfN_ok hs
  have l1 : (s / 2) &&& 1431655765 ≤ s := Nat.le_trans Nat.and_le_left (Nat.div_le_self _ _)
  have f1 : bf1 s 1431655765 ≤ s := Nat.sub_le _ _
  have u1 : ((nI s).toUInt32 >>> ((1 : Int32).toUInt32 &&& Int32.toUInt32 31)).toInt32 = nI (s / 2) := i_ush (k := 1) (by omega) (by decide)
  have v1 : nI s - (nI (s / 2) &&& 1431655765) = nI (bf1 s 1431655765) := by
    rw [show (1431655765 : Int32) = nI 1431655765 by decide, i_and, pk_sub l1]; rfl
  have u2 : ((nI (bf1 s 1431655765)).toUInt32 >>> ((2 : Int32).toUInt32 &&& Int32.toUInt32 31)).toInt32 = nI (bf1 s 1431655765 / 4) := i_ush (k := 2) (by omega) (by decide)
  have v2 : (nI (bf1 s 1431655765) &&& 858993459) + (nI (bf1 s 1431655765 / 4) &&& 858993459) = nI (bf2 (bf1 s 1431655765) 858993459) := by
    rw [show (858993459 : Int32) = nI 858993459 by decide, i_and, i_and, nI_add]; rfl
  have f2 : bf2 (bf1 s 1431655765) 858993459 ≤ 2 * s := by
    have g1 : (bf1 s 1431655765 &&& 858993459) ≤ bf1 s 1431655765 := Nat.and_le_left
    have g2 : ((bf1 s 1431655765 / 4) &&& 858993459) ≤ bf1 s 1431655765 / 4 := Nat.and_le_left
    unfold bf2
    omega
  have u3 : ((nI (bf2 (bf1 s 1431655765) 858993459)).toUInt32 >>> ((4 : Int32).toUInt32 &&& Int32.toUInt32 31)).toInt32 = nI (bf2 (bf1 s 1431655765) 858993459 / 16) := i_ush (k := 4) (by omega) (by decide)
  have v3 : (nI (bf2 (bf1 s 1431655765) 858993459) + nI (bf2 (bf1 s 1431655765) 858993459 / 16)) &&& 252645135 = nI (bfN s) := by
    rw [show (252645135 : Int32) = nI 252645135 by decide, nI_add, i_and]; rfl
  have fN : bfN s < 1000000 := by rw [e]; omega
  have u4 : ((nI (bfN s)).toUInt32 >>> ((8 : Int32).toUInt32 &&& Int32.toUInt32 31)).toInt32 = nI (bfN s / 256) := i_ush (k := 8) (by omega) (by decide)
  have u5 : ((nI (bfN s + bfN s / 256)).toUInt32 >>> ((16 : Int32).toUInt32 &&& Int32.toUInt32 31)).toInt32 = nI ((bfN s + bfN s / 256) / 65536) := i_ush (k := 16) (by omega) (by decide)
  unfold ab_bc
  rw [u1, v1, u2, v2, u3, v3, u4, nI_add, u5, nI_add, pk_andN (by omega) 6 (by decide), hb]
  congr 1
  have q1 : bfN s / 256 = c2 * 256 + c1 := by rw [e]; omega
  have q2 : (bfN s + (c2 * 256 + c1)) / 65536 = c2 := by rw [e]; omega
  rw [q1, q2, e]
  have q3 : (c2 * 256 + c1) * 256 + c0 + (c2 * 256 + c1) + c2 = 64 * (c2 * 1024 + (c1 + c2) * 4) + (c0 + c1 + c2) := by omega
  rw [q3, show (2 : Nat) ^ 6 = 64 by decide, Nat.mul_add_mod]
  exact Nat.mod_eq_of_lt (by omega)
theorem s_bitCount20 {d : Nat} {h : ab_H} {s : Nat} (hs : s < 1048576) : MSE m_J6_bitCount_0f7a4 d [.int (nI s)] h (some (.int (nI (bc 20 s)))) h :=
  e_J6_bitCount_0f7a4 (b_J6_bitCount_0f7a4_0 ⟨by rw [← ab_bc20 hs]; rfl, rfl⟩)
theorem r_ones20 {d : Nat} {h : ab_H} {s : Nat} (hs : s < 1048576) : MSE m_X10_ones (d + 1) [.int (nI s)] h (some (.int (nI (bc 20 s)))) h :=
  e_X10_ones (b_X10_ones_0 (s_bitCount20 hs) ⟨rfl, rfl⟩)
