section
variable {d n t : Nat} {c c' : Nat → List Value} {g w w' : Nat → Nat} {z : Nat → Int32} {x y : Int32} {h : ab_H}
/-! trees by codes and ranks -/
theorem r_ranks (hn : n ≤ 10) : MSE m_X10_ranks (d + 1) [.int (nI n)] h (some (.int (nI (n ^ (n - 2))))) h := by
  refine e_X10_ranks (b_X10_ranks_0 ?_)
  refine up_all (n := n - 2) (T := fun k => a_X10_ranks_4 (d + 1) 0 0 (nI n) (nI (n ^ k)) (nI k) h (rI (nI (n ^ (n - 2))) h)) (fun k hk ih => ?_) ?_
  · refine b_X10_ranks_4 (r_codeMany hn) (fun q => absurd q (nI_ge hk (by omega))) (fun _ => b_X10_ranks_12 ?_)
    rw [nI_1, pk_mul]
    have ih : a_X10_ranks_4 (d + 1) 0 0 (nI n) (nI (n ^ (k + 1))) (nI (k + 1)) h (rI (nI (n ^ (n - 2))) h) := ih
    rw [Nat.pow_succ] at ih; exact ih
  · exact b_X10_ranks_4 (r_codeMany hn) (fun _ => b_X10_ranks_22 ⟨rfl, rfl⟩) (fun q => absurd (nI_le (Nat.le_refl _) (by omega)) q)
def cQ (c : Nat → List Value) (q : Nat → Nat) : Nat → List Value := up1 c 78 (ar 10 (fun i => nI (q i)))
theorem cQ_M {q : Nat → Nat} (hz : c 70 = moL z) : (hp (cQ c q))[70]? = some (10, moL z) := mo_H ((up1_ne _ _ (by decide)).trans hz)
theorem cQ_H {q : Nat → Nat} : (hp (cQ c q))[78]? = some (100, ar 10 (fun i => nI (q i))) := hp_is 78 100 (up1_same _ _ _) (by decide) (by decide)
theorem cQ_s {q q2 : Nat → Nat} : (hp (cQ c q)).set 78 (100, ar 10 (fun i => nI (q2 i))) = hp (cQ c q2) := by
  unfold cQ
  rw [hp_set (by decide) (by decide), up1_up1]
theorem r_decodes (hz : c 70 = moL z) {q : Nat → Nat} (hq : c 78 = ar 10 (fun i => nI (q i))) (hn : n ≤ 10) {r : Nat} (hr : r < 2147483648) : MSE m_X10_decodes (d + 1) [.ref 70, .int (nI r), .int (nI n)] (hp c) none (hp (cQ c (srQ n r q (n - 2)))) := by
  refine e_X10_decodes (b_X10_decodes_0 (r_codeMany hn) ?_)
  have key := up_all (n := n - 2) (T := fun k => a_X10_decodes_10 (d + 1) 0 0 70 (nI n) (nI (r / n ^ k)) (nI (n - 2 - k) - 1) (hp (cQ c (srQ n r q k))) (rV (hp (cQ c (srQ n r q (n - 2)))))) (fun k hk ih => ?_) ?_
  · have e0 : cQ c (srQ n r q 0) = c := up1_id hq
    rw [e0, Nat.pow_zero, Nat.div_one, Nat.sub_zero] at key; exact key
  · have ih : a_X10_decodes_10 (d + 1) 0 0 70 (nI n) (nI (r / n ^ (k + 1))) (nI (n - 2 - (k + 1)) - 1) (hp (cQ c (up1 (srQ n r q k) (n - 3 - k) (r / n ^ k % n)))) (rV (hp (cQ c (srQ n r q (n - 2))))) := ih
    have hq' : r / n ^ k < 2147483648 := Nat.lt_of_le_of_lt (Nat.div_le_self _ _) hr
    have e1 : nI (n - 2 - k) - 1 = nI (n - 3 - k) := by
      rw [show n - 2 - k = (n - 3 - k) + 1 by omega, nI_pred]
    have e2 : nI (n - 3 - k) + (-1) = nI (n - 2 - (k + 1)) - 1 := by
      rw [show n - 2 - (k + 1) = n - 3 - k by omega]
      exact (Int32.sub_eq_add_neg _ _).symm
    have e3 : r / n ^ (k + 1) = r / n ^ k / n := by rw [Nat.pow_succ, Nat.div_div_eq_div_mul]
    rw [e1]
    refine b_X10_decodes_10 (fun q => absurd q (nI_pos (by omega))) (fun _ => b_X10_decodes_15 (cQ_M hz) rfl (nI_ne0 (show 0 < n by omega) (by omega)) cQ_H (nI_pos (by omega)) (ln10 (by omega)) (nI_ne0 (show 0 < n by omega) (by omega)) ?_)
    rw [pk_rem hq' (show 0 < n by omega) (by omega), cl_nI (by omega), ar_upN, cQ_s, e2, pk_div hq' (show 0 < n by omega) (by omega), ← e3]
    exact ih
  · rw [Nat.sub_self]
    exact b_X10_decodes_10 (fun _ => b_X10_decodes_35 ⟨rfl, rfl⟩) (fun q => absurd (show nI 0 - 1 < 0 by decide) q)
theorem nm_iff {q : Nat → Nat} {i v : Nat} : ∀ k, (nmU q i k).testBit v = true ↔ ∃ j, j < k ∧ q (i + j) = v
  | 0 => by
    show (0 : Nat).testBit v = true ↔ _
    rw [Nat.zero_testBit]
    exact ⟨fun h => (by cases h), fun ⟨j, h, _⟩ => by omega⟩
  | k + 1 => by
    show (nmU q i k ||| 2 ^ q (i + k)).testBit v = true ↔ _
    rw [Nat.testBit_or, Bool.or_eq_true, nm_iff k, pow_bit, decide_eq_true_eq]
    constructor
    · rintro (⟨j, h1, h2⟩ | h)
      · exact ⟨j, by omega, h2⟩
      · exact ⟨k, by omega, h⟩
    · rintro ⟨j, h1, h2⟩
      by_cases e : j = k
      · subst e; exact Or.inr h2
      · exact Or.inl ⟨j, by omega, h2⟩
theorem r_isAhead (hz : c 70 = moL z) {q : Nat → Nat} (hq : c 78 = ar 10 (fun i => nI (q i))) (hn : n ≤ 10) (hq10 : ∀ i, i < n - 2 → q i < 10) {k v : Nat} (hk : k ≤ n - 2) (hv : v < 10) : MSE m_X10_isAhead (d + 1) [.ref 70, .int (nI v), .int (nI k), .int (nI n)] (hp c) (some (.int (nI (if (nmU q k (n - 2 - k)).testBit v = true then 1 else 0)))) (hp c) := by
  have h78 : (hp c)[78]? = some (100, ar 10 (fun i => nI (q i))) := hp_is 78 100 hq (by decide) (by decide)
  refine e_X10_isAhead (b_X10_isAhead_0 ?_)
  have loop : ∀ j i, i + j = n - 2 → k ≤ i → (∀ p, k ≤ p → p < i → q p ≠ v) → SW none m_X10_isAhead (d + 1) 0 0 3 [some (.ref 70), some (.int (nI v)), none, some (.int (nI n)), some (.int (nI i))] [] (hp c) (rI (nI (if (nmU q k (n - 2 - k)).testBit v = true then 1 else 0)) (hp c)) := by
    intro j
    induction j with
    | zero =>
      intro i hi hki hz'
      have e : ¬ (nmU q k (n - 2 - k)).testBit v = true := fun h => by
        obtain ⟨j, h1, h2⟩ := (nm_iff _).mp h
        exact hz' (k + j) (by omega) (by omega) h2
      rw [if_neg e]
      exact b_X10_isAhead_3 (r_codeMany hn) (fun _ => b_X10_isAhead_31 ⟨rfl, rfl⟩) (fun q => absurd (nI_le (show n - 2 ≤ i by omega) (by omega)) q)
    | succ j ih =>
      intro i hi hki hz'
      have hin : i < n - 2 := by omega
      have := hq10 i hin
      refine b_X10_isAhead_3 (r_codeMany hn) (fun q => absurd q (nI_ge hin (by omega))) (fun _ => b_X10_isAhead_12 (x4 := nI (q i)) (mo_H hz) rfl h78 (nI_pos (by omega)) (at10 (by omega)) (fun q2 => b_X10_isAhead_25 ?_) (fun q2 => b_X10_isAhead_23 ⟨?_, rfl⟩))
      · rw [nI_1]
        exact ih (i + 1) (by omega) (by omega) (fun p h1 h2 => by
          rcases Nat.lt_succ_iff_lt_or_eq.mp h2 with h | h
          · exact hz' p h1 h
          · rw [h]; exact fun e => q2 (by rw [e]))
      · have e : (nmU q k (n - 2 - k)).testBit v = true := (nm_iff _).mpr ⟨i - k, by omega, by rw [show k + (i - k) = i by omega]; exact (i_eq (by omega) (by omega)).mp q2⟩
        rw [if_pos e]; rfl
  exact loop (n - 2 - k) k (by omega) (Nat.le_refl k) (fun p h1 h2 => by omega)
/-- the other row, with its number of vertices -/
def cG (c : Nat → List Value) (z : Nat → Int32) (n : Nat) (g1 w1 : Nat → Nat) : Nat → List Value := up1 (cX c g1 w1) 70 (moL (up1 z 10 (nI n)))
theorem cG_M {g1 w1 : Nat → Nat} : (hp (cG c z n g1 w1))[70]? = some (10, moL (up1 z 10 (nI n))) := mo_H (up1_same _ _ _)
theorem cG_72 {g1 w1 : Nat → Nat} : (hp (cG c z n g1 w1))[72]? = some (100, ar 20 (fun i => nI (sv g1 w1 i))) := hp_is 72 100 ((up1_ne _ _ (by decide)).trans (up1_same _ _ _)) (by decide) (by decide)
theorem cG_s {g1 w1 g2 : Nat → Nat} : (hp (cG c z n g1 w1)).set 72 (100, ar 20 (fun i => nI (sv g2 w1 i))) = hp (cG c z n g2 w1) := by
  unfold cG cX
  rw [hp_set (by decide) (by decide), up1_cm (i := 70) (j := 72) (by decide), up1_up1]
theorem low2 : ∀ s, s < 1024 → s ≠ 0 → s &&& (s - 1) = df s (2 ^ lz s) := by
  set_option maxRecDepth 100000 in decide +kernel
theorem r_grows (hz : c 70 = moL z) {g1 w1 q : Nat → Nat} (h72 : c 72 = ar 20 (fun i => nI (sv g1 w1 i))) (hq : c 78 = ar 10 (fun i => nI (q i))) (h1 : 1 ≤ n) (hn : n ≤ 10) (hqn : ∀ i, i < n - 2 → q i < n) : MSE m_X10_grows (d + 2) [.ref 70, .int (nI n)] (hp c) none (hp (cG c z n (plT q n) w1)) := by
  have e10 : (hp c).set 70 (10, (moL z).set 10 (.int (nI n))) = hp (cG c z n g1 w1) := by
    rw [moS10, hp_set (by decide) (by decide)]
    unfold cG
    rw [show cX c g1 w1 = c from up1_id h72]
  have hq78 : ∀ g2, cG c z n g2 w1 78 = ar 10 (fun i => nI (q i)) := fun g2 => (up1_ne _ _ (by decide)).trans ((up1_ne _ _ (by decide)).trans hq)
  have h78 : ∀ g2, (hp (cG c z n g2 w1))[78]? = some (100, ar 10 (fun i => nI (q i))) := fun g2 => hp_is 78 100 (hq78 g2) (by decide) (by decide)
  obtain ⟨ok, u, hu⟩ := pl_ok h1 hn hqn
  have hll := fun k => plL_lt (q := q) hn k
  have hl10 : ∀ k, plL q n k < 1024 := fun k => Nat.lt_of_lt_of_le (hll k) (pow_le10 hn)
  refine e_X10_grows (b_X10_grows_0 (mo_H hz) (by show 10 < 27; decide) ?_)
  rw [e10]
  have key := up_all (n := 10) (T := fun k => a_X10_grows_7 (d + 2) 0 0 70 (nI n) (nI k) (hp (cG c z n (fun i => if i < k then 0 else g1 i) w1)) (rV (hp (cG c z n (plT q n) w1)))) (fun k hk ih => ?_) ?_
  · have e0 : (fun i => if i < 0 then 0 else g1 i) = g1 := funext fun i => if_neg (Nat.not_lt_zero i)
    have key : a_X10_grows_7 (d + 2) 0 0 70 (nI n) (nI 0) (hp (cG c z n (fun i => if i < 0 then 0 else g1 i) w1)) (rV (hp (cG c z n (plT q n) w1))) := key
    rw [e0] at key; exact key
  · refine b_X10_grows_7 (fun q => absurd q (nI_ge (a := k) (b := 10) hk (by decide))) (fun _ => b_X10_grows_13 cG_M rfl cG_72 (nI_pos (by omega)) (ln20 (by omega)) ?_)
    have e : up1 (fun i => if i < k then 0 else g1 i) k 0 = fun i => if i < k + 1 then 0 else g1 i := funext fun i => by
      by_cases e : i = k
      · subst e; rw [up1_same, if_pos (show i < i + 1 by omega)]
      · rw [up1_ne _ _ e]
        by_cases h : i < k
        · rw [if_pos h, if_pos (show i < k + 1 by omega)]
        · rw [if_neg h, if_neg (show ¬ i < k + 1 by omega)]
    rw [show (0 : Int32) = nI 0 from rfl, cl_nI (by omega), ar_upN, sv_up (by omega), cG_s, e, nI_1]
    exact ih
  · refine b_X10_grows_7 (fun _ => b_X10_grows_26 ?_) (fun q => absurd (nI_le (a := 10) (b := 10) (Nat.le_refl _) (by decide)) q)
    rw [i_al hn]
    have e0 : cG c z n (fun i => if i < 10 then 0 else g1 i) w1 = cG c z n (plG q n 0) w1 := by
      unfold cG cX
      rw [ar_ext (n := 20) (f := fun i => nI (sv (fun i => if i < 10 then 0 else g1 i) w1 i)) (g := fun i => nI (sv (plG q n 0) w1 i)) (fun i _ => by
        unfold sv
        by_cases h : i < 10
        · rw [if_pos h, if_pos h]
          show nI (if i < 10 then 0 else g1 i) = nI 0
          rw [if_pos h]
        · rw [if_neg h, if_neg h])]
    rw [e0]
    refine up_all (n := n - 2) (T := fun k => a_X10_grows_34 (d + 2) 0 0 70 (nI n) (nI (plL q n k)) (nI k) (hp (cG c z n (plG q n k) w1)) (rV (hp (cG c z n (plT q n) w1)))) (fun k hk ih => ?_) ?_
    · obtain ⟨v, hv⟩ := ok k hk
      obtain ⟨v1, v2, v3, v4⟩ := plV_ok hn hk hv
      have hqk := hqn k hk
      have eG : plG q n (k + 1) = jn (plG q n k) v (q k) := by
        show jn (plG q n k) ((plV q n k (plL q n k)).getD 0) (q k) = _
        rw [hv]; rfl
      have eL : plL q n (k + 1) = df (plL q n k) (2 ^ v) := by
        show df (plL q n k) (2 ^ (plV q n k (plL q n k)).getD 0) = _
        rw [hv]; rfl
      have ih : a_X10_grows_34 (d + 2) 0 0 70 (nI n) (nI (plL q n (k + 1))) (nI (k + 1)) (hp (cG c z n (plG q n (k + 1)) w1)) (rV (hp (cG c z n (plT q n) w1))) := ih
      rw [eG, eL] at ih
      have hlk := hl10 k
      have mA : ∀ i, i < 10 → MSE m_X10_isAhead (d + 1) [.ref 70, .int (nI i), .int (nI k), .int (nI n)] (hp (cG c z n (plG q n k) w1)) (some (.int (nI (if (nmU q k (n - 2 - k)).testBit i = true then 1 else 0)))) (hp (cG c z n (plG q n k) w1)) := fun i hi => r_isAhead (d := d) (z := up1 z 10 (nI n)) (up1_same _ _ _) (hq78 _) hn (fun j hj => by have := hqn j hj; omega) (by omega) hi
      refine b_X10_grows_34 (r_codeMany hn) (fun q => absurd q (nI_ge hk (by omega))) (fun _ => b_X10_grows_42 ?_)
      have loop : ∀ j i, i + j = v → a_X10_grows_45 (d + 2) 0 0 70 (nI n) (nI (plL q n k)) (nI k) (nI i) (hp (cG c z n (plG q n k) w1)) (rV (hp (cG c z n (plT q n) w1))) := by
        intro j
        induction j with
        | zero =>
          intro i hi
          have : i = v := by omega
          subst this
          have mj := r_joins (d := d + 1) (h := hp (cG c z n (plG q n k) w1)) (a := 72) (u := i) (v := q k) cG_72 (by omega) (by omega)
          rw [cG_s] at mj
          refine b_X10_grows_45 (r_has (by omega) (by omega)) (fun q2 => absurd q2 (nv1 v2)) (fun _ => b_X10_grows_54 cG_M (mA i (by omega)) (fun _ => b_X10_grows_71 (x7 := nI (q k)) cG_M rfl cG_M rfl (h78 _) (nI_pos (by omega)) (at10 (by omega)) mj ?_) (fun q2 => absurd (nv0 v3) q2))
          rw [nI_1, i_shl1 (by omega), i_df]
          exact ih
        | succ j ih2 =>
          intro i hi
          have nxt : a_X10_grows_45 (d + 2) 0 0 70 (nI n) (nI (plL q n k)) (nI k) (nI i + 1) (hp (cG c z n (plG q n k) w1)) (rV (hp (cG c z n (plT q n) w1))) := by rw [nI_1]; exact ih2 (i + 1) (by omega)
          refine b_X10_grows_45 (r_has (by omega) (by omega)) (fun _ => b_X10_grows_65 nxt) (fun q2 => b_X10_grows_54 cG_M (mA i (by omega)) (fun q3 => ?_) (fun _ => b_X10_grows_65 nxt))
          have := low_min (k := i) (show low (df (plL q n k) (nmU q k (n - 2 - k))) = some v from hv) (by rw [df_bit, tb_of q2, h01.mp q3]; rfl)
          omega
      exact loop v 0 (by omega)
    · refine b_X10_grows_34 (r_codeMany hn) (fun _ => ?_) (fun q => absurd (nI_le (Nat.le_refl _) (by omega)) q)
      have hub := low_bit hu
      have hun : u < n := bit_lt (hll _) hub
      have hpc := (pl_okk hn hqn (n - 2) (Nat.le_refl _)).1
      have hd1 := pc_df1 (show u < 10 by omega) hub
      by_cases hn1 : n = 1
      · subst hn1
        have eT : plT q 1 = plG q 1 0 := by
          unfold plT
          rw [hu]
          have h0 : df (plL q 1 (1 - 2)) (2 ^ u) = 0 := pc_zero (df_lt (k := 10) (hl10 _)) (by omega)
          have hl0 : low (df (plL q 1 (1 - 2)) (2 ^ u)) = none := by rw [h0]; decide
          simp only [hl0]
        rw [eT]
        exact b_X10_grows_101 (fun _ => b_X10_grows_125 ⟨rfl, rfl⟩) (fun q => absurd (by decide) q)
      · obtain ⟨v, hv⟩ := low_some (a := df (plL q n (n - 2)) (2 ^ u)) (by omega)
        have eT : plT q n = jn (plG q n (n - 2)) u v := by unfold plT; rw [hu]; simp only [hv]
        have hvb := low_bit hv
        rw [df_bit, Bool.and_eq_true] at hvb
        have hvn : v < n := bit_lt (hll _) hvb.1
        rw [eT]
        obtain ⟨L, hL⟩ : ∃ L, L = plL q n (n - 2) := ⟨_, rfl⟩
        have hLl := hl10 (n - 2)
        rw [← hL] at hu hv hLl ⊢
        have hL0 : L ≠ 0 := fun e => by rw [e] at hu; cases hu
        have e1 : nI L - 1 = nI (L - 1) := pk_sub (a := L) (b := 1) (Nat.pos_of_ne_zero hL0)
        have e2 : nI L &&& (nI L - 1) = nI (df L (2 ^ u)) := by
          rw [e1, i_and, low2 L hLl hL0, lz_some hu]
        have m1 := r_lowest (d := d) (h := hp (cG c z n (plG q n (n - 2)) w1)) hLl
        rw [lz_some hu] at m1
        have m2 := r_lowest (d := d) (h := hp (cG c z n (plG q n (n - 2)) w1)) (s := df L (2 ^ u)) (df_lt (k := 10) hLl)
        rw [lz_some hv] at m2
        have mj := r_joins (d := d + 1) (h := hp (cG c z n (plG q n (n - 2)) w1)) (a := 72) (u := u) (v := v) cG_72 (by omega) (by omega)
        rw [cG_s] at mj
        exact b_X10_grows_101 (fun q => absurd ((nI_leI (a := n) (b := 1) (by omega) (by decide)).mp q) (by omega)) (fun _ => b_X10_grows_106 cG_M rfl m1 (by rw [e2]; exact m2) mj (b_X10_grows_125 ⟨rfl, rfl⟩))
end
