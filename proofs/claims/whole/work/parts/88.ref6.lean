section
variable {d n t : Nat} {c c' : Nat → List Value} {g w w' : Nat → Nat} {z : Nat → Int32} {x y : Int32} {h : ab_H}
/-! symmetries: how many there can be -/
theorem fac_mul (a : Nat) : ∀ b, fac a * fac b ≤ fac (a + b)
  | 0 => by rw [Nat.add_zero]; exact Nat.le_of_eq (Nat.mul_one _)
  | b + 1 => by
    have ih := fac_mul a b
    show fac a * (fac b * (b + 1)) ≤ fac (a + b) * (a + b + 1)
    rw [← Nat.mul_assoc]
    exact Nat.mul_le_mul ih (by omega)
theorem lkU_le {W : Nat → Nat} {ch : Nat → Bool} {x : Nat} : ∀ u, 1 ≤ lkU W ch x u ∧ lkU W ch x u ≤ cnU ch u + 1
  | 0 => ⟨Nat.le_refl _, Nat.le_refl _⟩
  | u + 1 => by
    obtain ⟨h1, h2⟩ := lkU_le (W := W) (ch := ch) (x := x) u
    have e : lkU W ch x (u + 1) = if ch u = true ∧ W u = x then lkU W ch x u + 1 else lkU W ch x u := rfl
    rw [e, cnU_s]
    by_cases hc : ch u = true
    · rw [if_pos hc]
      split <;> omega
    · rw [if_neg hc, if_neg (fun q => hc q.1)]
      exact ⟨h1, h2⟩
theorem cn_zs {z : Nat → Nat} {ch : Nat → Bool} (hz : ∀ u, 1 ≤ z u) : ∀ m, cnU ch m ≤ zsU z ch m
  | 0 => Nat.le_refl _
  | m + 1 => by
    have ih := cn_zs (ch := ch) hz m
    have h1 := hz m
    have e : zsU z ch (m + 1) = if ch m = true then zsU z ch m + z m else zsU z ch m := rfl
    rw [cnU_s, e]
    split <;> omega
theorem tnU_le {rec lk z : Nat → Nat} {ch : Nat → Bool} (hz : ∀ u, 1 ≤ z u) (hr : ∀ u, 1 ≤ rec u ∧ rec u ≤ fac (z u - 1)) (hl : ∀ u, 1 ≤ lk u ∧ lk u ≤ cnU ch u + 1) : ∀ m, 1 ≤ tnU rec lk ch m ∧ tnU rec lk ch m ≤ fac (zsU z ch m)
  | 0 => ⟨Nat.le_refl _, Nat.le_refl _⟩
  | m + 1 => by
    obtain ⟨i1, i2⟩ := tnU_le hz hr hl m
    have e1 : tnU rec lk ch (m + 1) = if ch m = true then tnU rec lk ch m * (lk m * rec m) else tnU rec lk ch m := rfl
    have e2 : zsU z ch (m + 1) = if ch m = true then zsU z ch m + z m else zsU z ch m := rfl
    rw [e1, e2]
    by_cases hc : ch m = true
    · rw [if_pos hc, if_pos hc]
      obtain ⟨r1, r2⟩ := hr m
      obtain ⟨l1, l2⟩ := hl m
      have hz1 := hz m
      have hcz := cn_zs (ch := ch) hz m
      refine ⟨Nat.mul_pos i1 (Nat.mul_pos l1 r1), ?_⟩
      have h1 : tnU rec lk ch m * (lk m * rec m) ≤ fac (zsU z ch m) * ((zsU z ch m + 1) * fac (z m - 1)) := Nat.mul_le_mul i2 (Nat.mul_le_mul (by omega) r2)
      have h2 := fac_mul (zsU z ch m + 1) (z m - 1)
      have e3 : fac (zsU z ch m + 1) = fac (zsU z ch m) * (zsU z ch m + 1) := rfl
      rw [e3, Nat.mul_assoc, show zsU z ch m + 1 + (z m - 1) = zsU z ch m + z m by omega] at h2
      exact Nat.le_trans h1 h2
    · rw [if_neg hc, if_neg hc]
      exact ⟨i1, i2⟩
theorem zs_pos : ∀ l v pa, 1 ≤ zs g n l v pa
  | 0, _, _ => Nat.le_refl _
  | l + 1, v, pa => by show 1 ≤ zsU _ _ n + 1; omega
theorem Tn_le : ∀ l v pa, 1 ≤ Tn g n l v pa ∧ Tn g n l v pa ≤ fac (zs g n l v pa - 1)
  | 0, _, _ => ⟨Nat.le_refl _, Nat.le_refl _⟩
  | l + 1, v, pa => tnU_le (z := fun u => zs g n l u (some v)) (fun u => zs_pos l u (some v)) (fun u => Tn_le l u (some v)) (fun u => lkU_le u) n
theorem Sy_ok (F : FOR g n) (hn : n ≤ 10) {v : Nat} (hv : v < n) : 0 < Sy g n v ∧ Sy g n v ≤ fac (pc (comp g n v)) ∧ Sy g n v < 2147483648 := by
  have G := F.1
  obtain ⟨t1, t2⟩ := Tn_le (g := g) (n := n) 10 v none
  obtain ⟨-, -, -, -, -, hz⟩ := Wd_all F hn hv (RP.root G hn hv)
  rw [show mr g n none v = comp g n v from mc_comp G hn hv] at hz
  have hz : zs g n 10 v none = pc (comp g n v) := hz
  rw [hz] at t2
  have hs := comp_pos G hn hv
  have hs10 := pc_le (comp g n v)
  have hob : pc (stU (orB (Rw g n) (mc g n v) (Rw g n v)) n) ≤ pc (comp g n v) := pc_mono (fun j hj => by
    rw [stU_bit, Bool.and_eq_true] at hj
    unfold orB at hj
    rw [Bool.and_eq_true, mc_comp G hn hv] at hj
    exact hj.2.1)
  have hob1 : 0 < pc (stU (orB (Rw g n) (mc g n v) (Rw g n v)) n) := pc_pos (v := v) (by omega) (by
    rw [stU_bit, decide_eq_true hv]
    unfold orB
    rw [mc_comp G hn hv, (comp_bit G hn hv).mpr cn_rf, decide_eq_true rfl]; rfl)
  have h1 : Sy g n v ≤ fac (pc (comp g n v)) := by
    have e : fac (pc (comp g n v)) = fac (pc (comp g n v) - 1) * pc (comp g n v) := by
      obtain ⟨j, hj⟩ : ∃ j, pc (comp g n v) = j + 1 := ⟨pc (comp g n v) - 1, by omega⟩
      rw [hj]; rfl
    rw [e, Nat.mul_comm]
    exact Nat.mul_le_mul hob t2
  exact ⟨Nat.mul_pos hob1 t1, h1, Nat.lt_of_le_of_lt h1 (fac_ok _ hs10).2⟩
theorem q_symmetries (R : RF c n g w) (hv : isV (cnU (isR g n) n) x = true) {l : Nat} (hl : low (cs g n x) = some l) (hln : l < n) : ∃ c', MSE m_X10_symmetries (d + 17) [.ref 70, .int x] (hp c) (some (.int (nI (Sy g n l)))) (hp c') ∧ QF c c' 0 := by
  obtain ⟨z, hz, h9, h6⟩ := R.Z
  have Q := QF.th (t := 0) R.S hz
  have R2 := R.q Q
  obtain ⟨fs2, H2⟩ := R2.M
  obtain ⟨K, hK⟩ := R2.kid
  obtain ⟨K', m1⟩ := r_symmetriesOf (d := d) R2.V R2.K R2.O (cs_lt (x := x) R.g10 R.le) hl hln (K := K)
  rw [hK] at m1
  exact ⟨cK (cT c z (nI 0)) K', e_X10_symmetries (b_X10_symmetries_0 (mo_H hz) (r_isComponent (d := d + 12) R) (fun _ => b_X10_symmetries_13 (b_X10_symmetries_14 (mo_H hz) (r_fails0 hz) (fun _ => b_X10_symmetries_25 H2 (r_cs (d := d + 13) R2) H2 m1 (b_X10_symmetries_34 ⟨rfl, rfl⟩)) (fun q => absurd rfl q))) (fun q => absurd q (nv1 hv))), Q.k (K := K')⟩
theorem q_symmetriesX (R : RF c n g w) (hv : isV (cnU (isR g n) n) x = false) : ∃ c', MSE m_X10_symmetries (d + 17) [.ref 70, .int x] (hp c) (some (.int 0)) (hp c') ∧ QF c c' 1 := by
  obtain ⟨z, hz, h9, h6⟩ := R.Z
  exact ⟨_, e_X10_symmetries (b_X10_symmetries_0 (mo_H hz) (r_isComponent (d := d + 12) R) (fun q => absurd (nv0 hv) q) (fun _ => b_X10_symmetries_9 (b_X10_symmetries_14 (mo_H hz) (r_fails1 hz) (fun q => absurd q (by decide)) (fun _ => b_X10_symmetries_21 (b_X10_symmetries_34 ⟨rfl, rfl⟩))))), QF.th R.S hz⟩
theorem q_labellings (R : RF c n g w) (hv : isV (cnU (isR g n) n) x = true) {l : Nat} (hl : low (cs g n x) = some l) (hln : l < n) : ∃ c', MSE m_X10_labellings (d + 17) [.ref 70, .int x] (hp c) (some (.int (nI (fac (pc (cs g n x)) / Sy g n l)))) (hp c') ∧ QF c c' 0 := by
  obtain ⟨z, hz, h9, h6⟩ := R.Z
  have Q := QF.th (t := 0) R.S hz
  have R2 := R.q Q
  obtain ⟨fs2, H2⟩ := R2.M
  obtain ⟨K, hK⟩ := R2.kid
  have hcs := cs_lt (x := x) R.g10 R.le
  obtain ⟨K', m1⟩ := r_symmetriesOf (d := d) R2.V R2.K R2.O hcs hl hln (K := K)
  rw [hK] at m1
  obtain ⟨s1, s2, s3⟩ := Sy_ok R.F R.le hln
  have hpl := pc_le (cs g n x)
  have hf := fac_ok (pc (cs g n x)) hpl
  have e1 : (nI (Sy g n l)).toInt64 = lN (Sy g n l) := nI_l s3
  refine ⟨cK (cT c z (nI 0)) K', e_X10_labellings (b_X10_labellings_0 (mo_H hz) (r_isComponent (d := d + 12) R) (fun _ => b_X10_labellings_13 (b_X10_labellings_14 (mo_H hz) (r_fails0 hz) (fun _ => b_X10_labellings_23 H2 (r_cs (d := d + 13) R2) (r_ones (d := d + 15) hcs) (r_factorial (by omega)) H2 m1 (fun e => ?_) ⟨?_, rfl⟩) (fun q => absurd rfl q))) (fun q => absurd q (nv1 hv))), Q.k (K := K')⟩
  · rw [e1] at e
    have := (pk_lEQ (a := Sy g n l) (b := 0) (by omega) (by decide)).mp e
    omega
  · rw [e1, pk_lDiv (by omega) s1 (by omega), lN_i]
theorem q_labellingsX (R : RF c n g w) (hv : isV (cnU (isR g n) n) x = false) : ∃ c', MSE m_X10_labellings (d + 17) [.ref 70, .int x] (hp c) (some (.int 0)) (hp c') ∧ QF c c' 1 := by
  obtain ⟨z, hz, h9, h6⟩ := R.Z
  exact ⟨_, e_X10_labellings (b_X10_labellings_0 (mo_H hz) (r_isComponent (d := d + 12) R) (fun q => absurd (nv0 hv) q) (fun _ => b_X10_labellings_9 (b_X10_labellings_14 (mo_H hz) (r_fails1 hz) (fun q => absurd q (by decide)) (fun _ => b_X10_labellings_21 ⟨rfl, rfl⟩)))), QF.th R.S hz⟩
/-! counts -/
theorem r_partings : ∀ t s d, t < 100 → s < 100 → MSE m_X10_partings (d + t) [.int (nI t), .int (nI s)] h (some (.long (lN (stir t s)))) h
  | 0, 0, d, _, _ => e_X10_partings (b_X10_partings_0 (fun _ => b_X10_partings_8 (fun q => absurd rfl q) (fun _ => b_X10_partings_13 (b_X10_partings_18 ⟨rfl, rfl⟩))) (fun q => absurd rfl q))
  | 0, s + 1, d, _, hs => e_X10_partings (b_X10_partings_0 (fun _ => b_X10_partings_8 (fun _ => b_X10_partings_17 (b_X10_partings_18 ⟨rfl, rfl⟩)) (fun q => by
      have := (i_eq (a := 0) (b := s + 1) (by decide) (by omega)).mp q
      omega)) (fun q => absurd rfl q))
  | t + 1, 0, d, ht, _ => e_X10_partings (b_X10_partings_0 (fun q => by
      have := (i_eq0 (a := t + 1) (by omega)).mp q
      omega) (fun q0 => b_X10_partings_4 (fun q => absurd rfl q) (fun _ => b_X10_partings_8 (fun _ => b_X10_partings_17 (b_X10_partings_18 ⟨rfl, rfl⟩)) (fun q => absurd q q0))))
  | t + 1, s + 1, d, ht, hs => by
    have m1 := r_partings t s d (by omega) (by omega)
    have m2 := r_partings t (s + 1) d (by omega) hs
    have et : nI (t + 1) - 1 = nI t := nI_pred t
    have es : nI (s + 1) - 1 = nI s := nI_pred s
    refine e_X10_partings (b_X10_partings_0 (fun q => by
      have := (i_eq0 (a := t + 1) (by omega)).mp q
      omega) (fun _ => b_X10_partings_4 (fun _ => b_X10_partings_19 (by rw [et, es]; exact m1) (by rw [et]; exact m2) ⟨?_, rfl⟩) (fun q => by
      have := (i_eq0 (a := s + 1) (by omega)).mp q
      omega)))
    rw [nI_l (by omega), lN_mul, lN_add, Nat.add_comm]
    rfl
def rfw (n l : Nat) : Nat := if n < 3 then (if l = (if n = 1 then 0 else 2) then 1 else 0) else if l < 2 ∨ n ≤ l then 0 else fac n / fac l * stir (n - 2) (n - l)
theorem rfw_wl : ∀ n, n < 11 → 1 ≤ n → ∀ l, l < 11 → rfw n l = wlX n l := by decide
theorem isIn_1 {a m : Nat} (ha : a ≤ m) (hm : m < 2147483648) {l : Nat} (h1 : a ≤ l) (h2 : l ≤ m) : MSE m_X10_isIn d [.int (nI l), .int (nI a), .int (nI m)] h (some (.int 1)) h := by
  have mi := r_isIn (d := d) (h := h) (x := nI l) (a := nI a) (b := nI m)
  rw [if_neg (fun q => by
    rcases q with q | q
    · exact nI_nlt h1 (by omega) q
    · exact nI_nlt h2 (by omega) q)] at mi
  exact mi
theorem isIn_0 {a b : Int32} (h' : x < a ∨ b < x) : MSE m_X10_isIn d [.int x, .int a, .int b] h (some (.int 0)) h := by
  have mi := r_isIn (d := d) (h := h) (x := x) (a := a) (b := b)
  rw [if_pos h'] at mi
  exact mi
theorem q_withLeaves (R : RF c n g w) {k l : Nat} (h1 : 1 ≤ k) (hk : k ≤ 10) (hl : l ≤ 10) : ∃ c', MSE m_X10_withLeaves (d + 12) [.ref 70, .int (nI k), .int (nI l)] (hp c) (some (.int (nI (wlX k l)))) (hp c') ∧ QF c c' 0 := by
  obtain ⟨z, hz, h9, h6⟩ := R.Z
  rw [← rfw_wl k (by omega) h1 l (by omega)]
  refine ⟨_, e_X10_withLeaves (b_X10_withLeaves_0 (isIn_1 (a := 1) (m := 10) (by decide) (by decide) h1 hk) (fun q => absurd q (by decide)) (fun _ => b_X10_withLeaves_11 (isIn_1 (a := 0) (m := 10) (by decide) (by decide) (Nat.zero_le l) hl) (fun _ => b_X10_withLeaves_25 (b_X10_withLeaves_26 (mo_H hz) (r_fails0 hz) (fun _ => b_X10_withLeaves_35 (fun q => ?_) (fun q => ?_)) (fun q => absurd rfl q))) (fun q => absurd q (by decide)))), QF.th R.S hz⟩
  · have h3 := (nI_leI (a := 3) (b := k) (by decide) (by omega)).mp q
    unfold rfw
    rw [if_neg (by omega)]
    refine b_X10_withLeaves_60 (fun q2 => b_X10_withLeaves_70 (b_X10_withLeaves_94 ⟨?_, rfl⟩)) (fun q2 => b_X10_withLeaves_65 (fun q3 => ?_) (fun q3 => b_X10_withLeaves_70 (b_X10_withLeaves_94 ⟨?_, rfl⟩)))
    · have : l < 2 := by
        rcases Nat.lt_or_ge l 2 with h | h
        · exact h
        · exact absurd q2 (nI_nlt (a := l) (b := 2) h (by omega))
      rw [if_pos (Or.inl this)]; rfl
    · have hl2 : 2 ≤ l := by
        rcases Nat.lt_or_ge l 2 with h | h
        · exact absurd (nI_lt (a := l) (b := 2) h (by decide)) q2
        · exact h
      have hlk : l < k := by
        rcases Nat.lt_or_ge l k with h | h
        · exact h
        · exact absurd q3 (nI_nlt h (by omega))
      rw [if_neg (by omega)]
      have hf := fac_ok l hl
      have hfk := fac_ok k hk
      have e1 : nI k - 2 = nI (k - 2) := pk_sub (a := k) (b := 2) (by omega)
      have e2 : nI k - nI l = nI (k - l) := pk_sub (by omega)
      have mp := r_partings (h := hp (cT c z (nI 0))) (k - 2) (k - l) (d + 11 - (k - 2)) (by omega) (by omega)
      rw [show d + 11 - (k - 2) + (k - 2) = d + 11 by omega] at mp
      refine b_X10_withLeaves_74 (r_factorial (by omega)) (r_factorial (by omega)) (fun e => ?_) (by rw [e1, e2]; exact mp) (b_X10_withLeaves_94 ⟨?_, rfl⟩)
      · have := (pk_lEQ (a := fac l) (b := 0) (by omega) (by decide)).mp e
        omega
      · rw [pk_lDiv (by omega) hf.1 (by omega), lN_mul, lN_i]
    · have : k ≤ l := by
        rcases Nat.lt_or_ge l k with h | h
        · exact absurd (nI_lt h (by omega)) q3
        · exact h
      rw [if_pos (Or.inr this)]; rfl
  · have h3 : k < 3 := by
      rcases Nat.lt_or_ge k 3 with h | h
      · exact h
      · exact absurd (nI_le (a := 3) (b := k) h (by omega)) q
    unfold rfw
    rw [if_pos h3]
    have fin : ∀ v : Nat, v = (if k = 1 then 0 else 2) → SW none m_X10_withLeaves (d + 12) 0 0 51 [none, none, none] [.int (nI v), .int (nI l)] (hp (cT c z (nI 0))) (rI (nI (if l = (if k = 1 then 0 else 2) then 1 else 0)) (hp (cT c z (nI 0)))) := fun v hv => by
      have hv2 : v < 3 := by rw [hv]; split <;> decide
      rw [← hv]
      refine b_X10_withLeaves_51 (fun q2 => b_X10_withLeaves_58 (b_X10_withLeaves_59 ⟨?_, rfl⟩)) (fun q2 => b_X10_withLeaves_54 (b_X10_withLeaves_59 ⟨?_, rfl⟩))
      · rw [if_neg (fun e => q2 (by rw [e]))]; rfl
      · rw [if_pos ((i_eq (by omega) (by omega)).mp q2)]; rfl
    refine b_X10_withLeaves_40 (fun q2 => b_X10_withLeaves_50 (fin 2 ?_)) (fun q2 => b_X10_withLeaves_46 (fin 0 ?_))
    · rw [if_neg (fun e => q2 (by rw [e]; rfl))]
    · rw [if_pos ((i_eq (b := 1) (by omega) (by decide)).mp q2)]
theorem q_withLeavesX (R : RF c n g w) (hx : x < 1 ∨ 10 < x ∨ y < 0 ∨ 10 < y) : ∃ c', MSE m_X10_withLeaves (d + 12) [.ref 70, .int x, .int y] (hp c) (some (.int 0)) (hp c') ∧ QF c c' 1 := by
  obtain ⟨z, hz, h9, h6⟩ := R.Z
  have fin : SW none m_X10_withLeaves (d + 12) 0 0 21 [none, some (.int x), some (.int y)] [.ref 70] (hp c) (rI 0 (hp (cT c z (nI 1)))) := b_X10_withLeaves_21 (b_X10_withLeaves_26 (mo_H hz) (r_fails1 hz) (fun q => absurd q (by decide)) (fun _ => b_X10_withLeaves_33 ⟨rfl, rfl⟩))
  refine ⟨_, e_X10_withLeaves (b_X10_withLeaves_0 r_isIn (fun _ => fin) (fun q => b_X10_withLeaves_11 r_isIn (fun q2 => ?_) (fun _ => fin))), QF.th R.S hz⟩
  exfalso
  by_cases h1 : x < 1 ∨ 10 < x
  · exact q (by rw [if_pos h1]; rfl)
  · refine q2 (by rw [if_pos]; · rfl
                  · rcases hx with h | h | h | h
                    · exact absurd (Or.inl h) h1
                    · exact absurd (Or.inr h) h1
                    · exact Or.inl h
                    · exact Or.inr h)
/-! rooted trees, free trees -/
def sgr (m : Nat) : Nat → Nat
  | 0 => 0
  | i + 1 => sgr m i + dm (i + 1) (i + 1) * rt (m - (i + 1) + 1)
theorem sgr_rt : ∀ m, m < 10 → 1 ≤ m → sgr m m / m = rt (m + 1) ∧ sgr m m < 2147483648 := by decide
def c80 (c : Nat → List Value) (r : Nat → Int32) : Nat → List Value := up1 c 80 (ar 11 r)
theorem c80_M {r : Nat → Int32} (hz : c 70 = moL z) : (hp (c80 c r))[70]? = some (10, moL z) := mo_H ((up1_ne _ _ (by decide)).trans hz)
theorem c80_H {r : Nat → Int32} : (hp (c80 c r))[80]? = some (100, ar 11 r) := hp_is 80 100 (up1_same _ _ _) (by decide) (by decide)
theorem c80_s {r r2 : Nat → Int32} : (hp (c80 c r)).set 80 (100, ar 11 r2) = hp (c80 c r2) := by
  unfold c80
  rw [hp_set (by decide) (by decide), up1_up1]
theorem rr_step {R : Nat → Int32} {m : Nat} (hm : m < 10) : (ar 11 (rr R m)).set (nI (m + 1)).toNatClampNeg (.int (nI (rt (m + 1)))) = ar 11 (rr R (m + 1)) := by
  rw [cl_nI (by omega), ar_set]
  refine ar_ext (fun i _ => ?_)
  by_cases e : i = m + 1
  · subst e
    rw [up1_same]
    unfold rr
    rw [if_pos ⟨by omega, Nat.le_refl _⟩]
  · rw [up1_ne _ _ e]
    unfold rr
    by_cases h : 1 ≤ i ∧ i ≤ m
    · rw [if_pos h, if_pos ⟨h.1, by omega⟩]
    · rw [if_neg h, if_neg (by omega)]
theorem rr_at {R : Nat → Int32} {m i : Nat} (h1 : 1 ≤ i) (h2 : i ≤ m) : rr R m i = nI (rt i) := if_pos ⟨h1, h2⟩
theorem r_laysRooted (hz : c 70 = moL z) {r : Nat → Int32} (hr : c 80 = ar 11 r) : MSE m_X10_laysRooted (d + 1) [.ref 70] (hp c) none (hp (c80 c (rr r 10))) := by
  have M := fun r' : Nat → Int32 => c80_M (c := c) (r := r') hz
  have e1 : (hp c).set 80 (100, (ar 11 r).set (1 : Int32).toNatClampNeg (.int 1)) = hp (c80 c (rr r 1)) := by
    rw [show (1 : Int32).toNatClampNeg = 1 by decide, ar_set, hp_set (by decide) (by decide)]
    have : ar 11 (up1 r 1 1) = ar 11 (rr r 1) := ar_ext (fun i _ => by
      by_cases e : i = 1
      · subst e; rw [up1_same, rr_at (Nat.le_refl _) (Nat.le_refl _)]; rfl
      · rw [up1_ne _ _ e]
        unfold rr
        rw [if_neg (by omega)])
    rw [this]; rfl
  refine e_X10_laysRooted (b_X10_laysRooted_0 (mo_H hz) rfl (hp_is 80 100 hr (by decide) (by decide)) (by decide) (by rw [ar_len]; decide) ?_)
  rw [e1]
  refine up_from (a := 1) (n := 10) (T := fun m => a_X10_laysRooted_9 (d + 1) 0 0 70 (nI m) (hp (c80 c (rr r m))) (rV (hp (c80 c (rr r 10))))) (by decide) (fun m h1 hm ih => ?_) ?_
  · refine b_X10_laysRooted_9 (fun q => absurd q (nI_ge (a := m) (b := 10) hm (by decide))) (fun _ => b_X10_laysRooted_15 ?_)
    have key := up_from (a := 1) (n := m + 1) (T := fun k => a_X10_laysRooted_19 (d + 1) 0 0 70 (nI m) (nI (sgr m (k - 1))) (nI k) (hp (c80 c (rr r m))) (rV (hp (c80 c (rr r 10))))) (by omega) (fun k k1 hk ih2 => ?_) ?_
    · exact key
    · have ih2 : a_X10_laysRooted_19 (d + 1) 0 0 70 (nI m) (nI (sgr m k)) (nI (k + 1)) (hp (c80 c (rr r m))) (rV (hp (c80 c (rr r 10)))) := ih2
      refine b_X10_laysRooted_19 (fun q => absurd q (nI_nlt (show k ≤ m by omega) (by omega))) (fun _ => b_X10_laysRooted_24 ?_)
      have inner := up_from (a := 1) (n := k + 1) (T := fun e => SW none m_X10_laysRooted (d + 1) 0 0 30 [some (.ref 70), some (.int (nI m)), some (.int (nI (sgr m (k - 1)))), some (.int (nI k)), some (.int (nI (dm (e - 1) k))), some (.int (nI e))] [] (hp (c80 c (rr r m))) (rV (hp (c80 c (rr r 10))))) (by omega) (fun e e1 he ih3 => ?_) ?_
      · exact inner
      · have ih3 : SW none m_X10_laysRooted (d + 1) 0 0 30 [some (.ref 70), some (.int (nI m)), some (.int (nI (sgr m (k - 1)))), some (.int (nI k)), some (.int (nI (dm e k))), some (.int (nI (e + 1)))] [] (hp (c80 c (rr r m))) (rV (hp (c80 c (rr r 10)))) := ih3
        have ed : dm e k = if k % e = 0 ∧ k ≠ 0 then dm (e - 1) k + e * rt e else dm (e - 1) k := by
          obtain ⟨j, rfl⟩ : ∃ j, e = j + 1 := ⟨e - 1, by omega⟩
          rfl
        have em : nI k - nI k / nI e * nI e = nI (k % e) := pk_rem (by omega) (by omega) (by omega)
        refine b_X10_laysRooted_30 (fun q => absurd q (nI_nlt (show e ≤ k by omega) (by omega))) (fun _ => b_X10_laysRooted_36 (nI_ne0 (by omega) (by omega)) (fun q => b_X10_laysRooted_58 (b_X10_laysRooted_59 ?_)) (fun q => b_X10_laysRooted_45 (x5 := nI (rt e)) (M _) rfl c80_H (nI_pos (by omega)) (by rw [at11 (by omega), rr_at e1 (by omega)]) (b_X10_laysRooted_59 ?_)))
        · rw [em] at q
          rw [if_neg (fun e' => q (by rw [e'.1]; rfl))] at ed
          rw [nI_1, Int32.add_zero, ← ed]; exact ih3
        · rw [em] at q
          have h0 := (i_eq0 (a := k % e) (by have := Nat.mod_lt k (show 0 < e by omega); omega)).mp q
          rw [if_pos ⟨h0, by omega⟩] at ed
          rw [nI_1, pk_mul, nI_add, ← ed]; exact ih3
      · have ei : nI m - nI k + 1 = nI (m - k + 1) := by rw [pk_sub (by omega)]; exact nI_1 _
        have es : sgr m k = sgr m (k - 1) + dm k k * rt (m - k + 1) := by
          obtain ⟨j, rfl⟩ : ∃ j, k = j + 1 := ⟨k - 1, by omega⟩
          rfl
        refine b_X10_laysRooted_30 (fun _ => b_X10_laysRooted_68 (x10 := nI (rt (m - k + 1))) (M _) rfl c80_H (by rw [ei]; exact nI_pos (by omega)) (by rw [ei, at11 (by omega), rr_at (by omega) (by omega)]) ?_) (fun q => absurd (nI_lt (show k < k + 1 by omega) (by omega)) q)
        rw [nI_1, Nat.add_sub_cancel, pk_mul, nI_add, ← es]; exact ih2
    · obtain ⟨s1, s2⟩ := sgr_rt m hm h1
      refine b_X10_laysRooted_19 (fun _ => b_X10_laysRooted_90 (M _) rfl (nI_ne0 (by omega) (by omega)) c80_H (by rw [nI_1]; exact nI_pos (by omega)) (by rw [nI_1]; exact ln11 (by omega)) ?_) (fun q => absurd (nI_lt (show m < m + 1 by omega) (by omega)) q)
      rw [nI_1, Nat.add_sub_cancel, pk_div s2 (by omega) (by omega), s1, rr_step hm, c80_s]
      exact ih
  · exact b_X10_laysRooted_9 (fun _ => b_X10_laysRooted_107 ⟨rfl, rfl⟩) (fun q => absurd (nI_le (a := 10) (b := 10) (Nat.le_refl _) (by decide)) q)
theorem QF.o80 (Q : QF c c' t) {r : Nat → Int32} : QF c (c80 c' r) t := Q.up (by decide) Q.2.1.r80
theorem q_classesR (R : RF c n g w) {k : Nat} (hy : ¬ y = 0) (h1 : 1 ≤ k) (hk : k ≤ 10) : ∃ c', MSE m_X10_classes (d + 3) [.ref 70, .int (nI k), .int y] (hp c) (some (.int (nI (rt k)))) (hp c') ∧ QF c c' 0 := by
  obtain ⟨z, hz, h9, h6⟩ := R.Z
  have Q := QF.th (t := 0) R.S hz
  obtain ⟨r, hr⟩ := Q.2.1.2.2.2.1
  have m1 := r_laysRooted (d := d + 1) (c := cT c z (nI 0)) (z := up1 z 0 (nI 0)) (up1_same _ _ _) hr
  exact ⟨_, e_X10_classes (b_X10_classes_0 (isIn_1 (a := 1) (m := 10) (by decide) (by decide) h1 hk) (fun _ => b_X10_classes_15 (b_X10_classes_16 (mo_H hz) (r_fails0 hz) (fun _ => b_X10_classes_25 cT_H m1 (fun q => absurd q hy) (fun _ => b_X10_classes_33 (x4 := nI (rt k)) (c80_M (up1_same _ _ _)) rfl c80_H (nI_pos (by omega)) (by rw [at11 (by omega), rr_at h1 hk]) ⟨rfl, rfl⟩)) (fun q => absurd rfl q))) (fun q => absurd q (by decide))), Q.o80⟩
theorem q_classesF (R : RF c n g w) {k : Nat} (h1 : 1 ≤ k) (hk : k ≤ 10) : ∃ c', MSE m_X10_classes (d + 3) [.ref 70, .int (nI k), .int 0] (hp c) (some (.int (fr k))) (hp c') ∧ QF c c' 0 := by
  obtain ⟨z, hz, h9, h6⟩ := R.Z
  have Q := QF.th (t := 0) R.S hz
  obtain ⟨r, hr⟩ := Q.2.1.2.2.2.1
  have m1 := r_laysRooted (d := d + 1) (c := cT c z (nI 0)) (z := up1 z 0 (nI 0)) (up1_same _ _ _) hr
  have em : nI k - nI k / 2 * 2 = nI (k % 2) := pk_rem (d := 2) (by omega) (by decide) (by decide)
  have ed : nI k / 2 = nI (k / 2) := pk_div (d := 2) (by omega) (by decide) (by decide)
  have M := c80_M (c := cT c z (nI 0)) (z := up1 z 0 (nI 0)) (r := rr r 10) (up1_same _ _ _)
  have rest : ∀ v, v = (if k % 2 = 0 then -nI (rt (k / 2)) else (0 : Int32)) → SW none m_X10_classes (d + 3) 0 0 59 [some (.ref 70), some (.int (nI k)), none, none, none] [.int v] (hp (c80 (cT c z (nI 0)) (rr r 10))) (rI (fr k) (hp (c80 (cT c z (nI 0)) (rr r 10)))) := by
    intro v hv
    refine b_X10_classes_59 ?_
    refine up_all (n := k - 1) (T := fun j => SW none m_X10_classes (d + 3) 0 0 63 [some (.ref 70), some (.int (nI k)), none, some (.int (fp k v j)), some (.int (nI (j + 1)))] [] (hp (c80 (cT c z (nI 0)) (rr r 10))) (rI (fr k) (hp (c80 (cT c z (nI 0)) (rr r 10))))) (fun j hj ih => ?_) ?_
    · have e4 : nI k - nI (j + 1) = nI (k - (j + 1)) := pk_sub (by omega)
      refine b_X10_classes_63 (fun q => absurd q (nI_ge (show j + 1 < k by omega) (by omega))) (fun _ => b_X10_classes_69 (x5 := nI (rt (j + 1))) (x11 := nI (rt (k - (j + 1)))) M rfl c80_H (nI_pos (by omega)) (by rw [at11 (by omega), rr_at (by omega) (by omega)]) M rfl c80_H (by rw [e4]; exact nI_pos (by omega)) (by rw [e4, at11 (by omega), rr_at (by omega) (by omega)]) ?_)
      rw [nI_1, pk_mul]
      exact ih
    · rw [show k - 1 + 1 = k by omega]
      refine b_X10_classes_63 (fun _ => b_X10_classes_95 (x4 := nI (rt k)) M rfl c80_H (nI_pos (by omega)) (by rw [at11 (by omega), rr_at h1 hk]) (by decide) ⟨?_, rfl⟩) (fun q => absurd (nI_le (Nat.le_refl k) (by omega)) q)
      rw [hv]; rfl
  refine ⟨_, e_X10_classes (b_X10_classes_0 (isIn_1 (a := 1) (m := 10) (by decide) (by decide) h1 hk) (fun _ => b_X10_classes_15 (b_X10_classes_16 (mo_H hz) (r_fails0 hz) (fun _ => b_X10_classes_25 cT_H m1 (fun _ => b_X10_classes_40 (by decide) (fun q => b_X10_classes_58 (rest _ ?_)) (fun q => b_X10_classes_46 (x6 := nI (rt (k / 2))) M rfl (by decide) c80_H (by rw [ed]; exact nI_pos (by omega)) ?_ (rest _ ?_))) (fun q => absurd rfl q)) (fun q => absurd rfl q))) (fun q => absurd q (by decide))), Q.o80⟩
  · rw [em] at q
    rw [if_neg (fun e => q (by rw [e]; rfl))]
  · rw [em] at q
    have e := (i_eq0 (show k % 2 < 2147483648 by omega)).mp q
    rw [ed, at11 (by omega), rr_at (by omega) (by omega)]
  · rw [em] at q
    have e := (i_eq0 (show k % 2 < 2147483648 by omega)).mp q
    rw [if_pos e]
theorem q_classesX (R : RF c n g w) (hx : x < 1 ∨ 10 < x) : ∃ c', MSE m_X10_classes (d + 3) [.ref 70, .int x, .int y] (hp c) (some (.int 0)) (hp c') ∧ QF c c' 1 := by
  obtain ⟨z, hz, h9, h6⟩ := R.Z
  exact ⟨_, e_X10_classes (b_X10_classes_0 (isIn_0 hx) (fun q => absurd rfl q) (fun _ => b_X10_classes_11 (b_X10_classes_16 (mo_H hz) (r_fails1 hz) (fun q => absurd q (by decide)) (fun _ => b_X10_classes_23 ⟨rfl, rfl⟩)))), QF.th R.S hz⟩
/-! accounts, the output -/
theorem q_account (R : RF c n g w) {a : Nat → Int32} (ha : c 75 = ar 10 a) {i : Nat} (hi : i < 10) : ∃ c', MSE m_X10_account (d + 1) [.ref 70, .int (nI i)] (hp c) (some (.int (a i))) (hp c') ∧ QF c c' 0 := by
  obtain ⟨z, hz, h9, h6⟩ := R.Z
  have h75 : (hp (cT c z (nI 0)))[75]? = some (100, ar 10 a) := hp_is 75 100 ((cT_ne (by decide)).trans ha) (by decide) (by decide)
  exact ⟨_, e_X10_account (b_X10_account_0 (isIn_1 (a := 0) (m := 9) (by decide) (by decide) (Nat.zero_le i) (by omega)) (fun _ => b_X10_account_15 (b_X10_account_16 (mo_H hz) (r_fails0 hz) (fun _ => b_X10_account_27 cT_H rfl h75 (nI_pos (by omega)) (at10 hi) (b_X10_account_33 ⟨rfl, rfl⟩)) (fun q => absurd rfl q))) (fun q => absurd q (by decide))), QF.th R.S hz⟩
theorem q_accountX (R : RF c n g w) (hx : x < 0 ∨ 9 < x) : ∃ c', MSE m_X10_account (d + 1) [.ref 70, .int x] (hp c) (some (.int 0)) (hp c') ∧ QF c c' 1 := by
  obtain ⟨z, hz, h9, h6⟩ := R.Z
  exact ⟨_, e_X10_account (b_X10_account_0 (isIn_0 hx) (fun q => absurd rfl q) (fun _ => b_X10_account_11 (b_X10_account_16 (mo_H hz) (r_fails1 hz) (fun q => absurd q (by decide)) (fun _ => b_X10_account_23 (b_X10_account_33 ⟨rfl, rfl⟩))))), QF.th R.S hz⟩
theorem q_outputByte (R : RF c n g w) {f : Nat → Int32} {m : Nat} (hz : c 70 = moL z) (h24 : z 24 = nI m) (hm : m ≤ 400) (hf : c 79 = ar 400 f) {i : Nat} (hi : i < m) : ∃ c', MSE m_X10_outputByte (d + 1) [.ref 70, .int (nI i)] (hp c) (some (.int (f i))) (hp c') ∧ QF c c' 0 := by
  have h79 : (hp (cT c z (nI 0)))[79]? = some (100, ar 400 f) := hp_is 79 100 ((cT_ne (by decide)).trans hf) (by decide) (by decide)
  exact ⟨_, e_X10_outputByte (b_X10_outputByte_0 (x5 := nI m) (mo_H hz) (by rw [← h24]; rfl) (r_isInV (by omega)) (fun _ => b_X10_outputByte_19 (b_X10_outputByte_20 (mo_H hz) (r_fails0 hz) (fun _ => b_X10_outputByte_31 cT_H rfl h79 (nI_pos (by omega)) (by rw [cl_nI (by omega)]; exact ar_at _ (by omega)) (b_X10_outputByte_37 ⟨rfl, rfl⟩)) (fun q => absurd rfl q))) (fun q => absurd q (nv1 (isV_t hi)))), QF.th R.S hz⟩
theorem q_outputByteX (R : RF c n g w) {m : Nat} (hz : c 70 = moL z) (h24 : z 24 = nI m) (hm : m ≤ 400) (hx : isV m x = false) : ∃ c', MSE m_X10_outputByte (d + 1) [.ref 70, .int x] (hp c) (some (.int 0)) (hp c') ∧ QF c c' 1 :=
  ⟨_, e_X10_outputByte (b_X10_outputByte_0 (x5 := nI m) (mo_H hz) (by rw [← h24]; rfl) (r_isInV (by omega)) (fun q => absurd (nv0 hx) q) (fun _ => b_X10_outputByte_15 (b_X10_outputByte_20 (mo_H hz) (r_fails1 hz) (fun q => absurd q (by decide)) (fun _ => b_X10_outputByte_27 (b_X10_outputByte_37 ⟨rfl, rfl⟩))))), QF.th R.S hz⟩
end
