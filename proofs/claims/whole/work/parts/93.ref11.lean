section
variable {d n t ch kp : Nat} {c c' c'' : Nat → List Value} {g w g1 w1 : Nat → Nat} {z : Nat → Int32} {x y : Int32} {a : Nat → Int32} {Hg Hw Sg Sw : Nat → Nat → Nat}
/-! prune, trees by ranks, snapshots -/
theorem cN_20 {o : Nat → Nat} : up1 c 71 (ar 20 (fun i => nI (cpO (sv g w) o 0 20 i))) = cN c g w := by
  unfold cN
  rw [ar_ext (fun i hi => by rw [cpO_in (Nat.zero_le i) (by omega), Nat.sub_zero])]
theorem q_pruneX (R : RF c n g w) (h : x < 1 ∨ 9 < x) : ∃ c', MSE m_X10_prune (d + 1) [.ref 70, .int x] (hp c) (some (.int 0)) (hp c') ∧ QF c c' 1 := by
  obtain ⟨z, hz, h2, h3⟩ := R.Z
  exact ⟨_, e_X10_prune (b_X10_prune_0 (isIn_0 h) (fun q => absurd rfl q) (fun _ => b_X10_prune_11 (b_X10_prune_16 (mo_H hz) (r_fails1 hz) (fun q => absurd q (by decide)) (fun _ => b_X10_prune_23 ⟨rfl, rfl⟩)))), QF.th R.S hz⟩
theorem q_prune (R : RF c n g w) (X : HF c ch kp Hg Hw Sg Sw a) {r : Nat} (h1 : 1 ≤ r) (hr : r ≤ 9) : ∃ c', MSE m_X10_prune (d + 3) [.ref 70, .int (nI r)] (hp c) (some (.int (nI (ed g n) - nI (ed (dlI g n r) n)))) (hp c') ∧ RF c' n (dlI g n r) w ∧ HF c' (min (ch + 1) 8) kp (shH Hg g) (shH Hw w) Sg Sw (up1 a 3 (a 3 + nI r)) ∧ CF c c' 0 := by
  obtain ⟨z, hz, h2, h3⟩ := R.Z
  have hn := R.le
  have Q := QF.th (t := 0) R.S hz
  have R2 := R.q Q
  have X2 := X.q Q
  obtain ⟨c3, m3, R3, X3, K3⟩ := r_remembers (d := d + 2) R2 X2
  obtain ⟨z3, hz3, z39, z36⟩ := R3.Z
  obtain ⟨c4, hc4⟩ : ∃ c4, c4 = up1 c3 75 (ar 10 (up1 a 3 (a 3 + nI r))) := ⟨_, rfl⟩
  have R4 : RF c4 n g w := by rw [hc4]; exact R3.up (by decide)
  have X4 : HF c4 (min (ch + 1) 8) kp (shH Hg g) (shH Hw w) Sg Sw (up1 a 3 (a 3 + nI r)) := by rw [hc4]; exact X3.cnt
  have K4 : KF c3 c4 := by rw [hc4]; exact KF.up (by decide)
  have e75 : (hp c3).set 75 (100, (ar 10 a).set (3 : Int32).toNatClampNeg (.int (a 3 + nI r))) = hp c4 := by
    rw [hc4, show (3 : Int32) = nI 3 from rfl, acc_set (i := 3) (by decide), hp_set (by decide) (by decide)]
  have hz4 : c4 70 = moL z3 := by rw [hc4]; exact (up1_ne _ _ (by decide)).trans hz3
  have m4 := r_layOther (d := d + 2) hz4 R4.row R4.S.1
  have hr10 : dlI g n r = dlI g n r := rfl
  obtain ⟨gE, hgE⟩ : ∃ gE, gE = dlI g n r := ⟨_, rfl⟩
  have FE : FOR gE n := by rw [hgE]; exact dlI_F R.F r
  have R5 : RF (cX c4 gE w) n g w := R4.up2 (by decide) R4.S.r72
  have X5 : HF (cX c4 gE w) (min (ch + 1) 8) kp (shH Hg g) (shH Hw w) Sg Sw (up1 a 3 (a 3 + nI r)) := X4.up (by decide)
  have hle : ∀ k, ed (dlI g n k) n ≤ ed g n := fun k => by
    rcases dlI_ed R.F hn k with h | h <;> omega
  have val : nI (ed g n - ed gE n) = nI (ed g n) - nI (ed gE n) := (pk_sub (by rw [hgE]; exact hle r)).symm
  rw [← hgE]
  refine ⟨cN (cX c4 gE w) gE w, e_X10_prune (b_X10_prune_0 (isIn_1 (a := 1) (m := 9) (by decide) (by decide) h1 hr) (fun _ => b_X10_prune_15 (b_X10_prune_16 (mo_H hz) (r_fails0 hz) (fun _ => b_X10_prune_25 cT_H m3 (mo_H hz3) rfl X3.A (by decide) (acc_at (i := 3) (by decide)) X3.A (by decide) (acc_ln (i := 3) (by decide)) (by rw [e75]; exact mo_H hz4) (by rw [e75]; exact m4) ?_) (fun q => absurd rfl q))) (fun q => absurd q (by decide))), R5.now FE R.w99, X5.up (by decide), (((Q.C.k K3).k K4).k (KF.up (by decide))).k KF.nowK⟩
  have M := fun g' : Nat → Nat => cX_M (c := c4) (g := g') (w := w) hz4
  have key := up_all (n := r) (T := fun k => a_X10_prune_47 (d + 3) 0 0 70 (nI r) (nI (ed g n - ed (dlI g n k) n)) (nI k) (hp (cX c4 (dlI g n k) w)) (rI (nI (ed g n) - nI (ed gE n)) (hp (cN (cX c4 gE w) gE w)))) (fun k hk ih => ?_) ?_
  · have key : a_X10_prune_47 (d + 3) 0 0 70 (nI r) (nI (ed g n - ed g n)) (nI 0) (hp (cX c4 g w)) (rI (nI (ed g n) - nI (ed gE n)) (hp (cN (cX c4 gE w) gE w))) := key
    rw [Nat.sub_self] at key
    exact key
  · refine b_X10_prune_47 (fun q => absurd q (nI_ge hk (by omega))) (fun _ => b_X10_prune_52 (M _) (r_prunes hz4 z36 hn (dlI_F R.F k)) ?_)
    have e := gon_ed (dlI_F R.F k) hn
    have e2 := hle k
    have e3 : ed (dl (dlI g n k) n) n ≤ ed g n := hle (k + 1)
    rw [nI_1, nI_add, show ed g n - ed (dlI g n k) n + gon (dlI g n k) n = ed g n - ed (dlI g n (k + 1)) n by show _ = ed g n - ed (dl (dlI g n k) n) n; omega]
    exact ih
  · show a_X10_prune_47 (d + 3) 0 0 70 (nI r) (nI (ed g n - ed (dlI g n r) n)) (nI r) (hp (cX c4 (dlI g n r) w)) (rI (nI (ed g n) - nI (ed gE n)) (hp (cN (cX c4 gE w) gE w)))
    rw [← hgE]
    refine b_X10_prune_47 (fun _ => b_X10_prune_65 ?_) (fun q => absurd (nI_le (Nat.le_refl r) (by omega)) q)
    obtain ⟨c5, hc5⟩ : ∃ c5, c5 = cX c4 gE w := ⟨_, rfl⟩
    have hz5 : c5 70 = moL z3 := by rw [hc5]; exact (up1_ne _ _ (by decide)).trans hz4
    have h71 : c5 71 = ar 20 (fun i => nI (sv g w i)) := by rw [hc5]; exact (up1_ne _ _ (by decide)).trans R4.row
    have h72 : c5 72 = ar 20 (fun i => nI (sv gE w i)) := by rw [hc5]; exact up1_same _ _ _
    rw [← hc5]
    have Mk := fun k => mo_H (c := up1 c5 71 (ar 20 (fun i => nI (cpO (sv gE w) (sv g w) 0 k i)))) ((up1_ne _ _ (by decide)).trans hz5)
    have H71 := fun k => hp_is (c := up1 c5 71 (ar 20 (fun i => nI (cpO (sv gE w) (sv g w) 0 k i)))) 71 100 (up1_same _ _ _) (by decide) (by decide)
    have H72 := fun k => hp_is (c := up1 c5 71 (ar 20 (fun i => nI (cpO (sv gE w) (sv g w) 0 k i)))) 72 100 ((up1_ne _ _ (by decide)).trans h72) (by decide) (by decide)
    have key := up_all (n := 20) (T := fun k => a_X10_prune_67 (d + 3) 0 0 70 (nI (ed g n - ed gE n)) (nI k) (hp (up1 c5 71 (ar 20 (fun i => nI (cpO (sv gE w) (sv g w) 0 k i))))) (rI (nI (ed g n) - nI (ed gE n)) (hp (cN c5 gE w)))) (fun k hk ih => ?_) ?_
    · have e0 : up1 c5 71 (ar 20 (fun i => nI (cpO (sv gE w) (sv g w) 0 0 i))) = c5 := by rw [cpO_0]; exact up1_id h71
      have key : a_X10_prune_67 (d + 3) 0 0 70 (nI (ed g n - ed gE n)) (nI 0) (hp (up1 c5 71 (ar 20 (fun i => nI (cpO (sv gE w) (sv g w) 0 0 i))))) (rI (nI (ed g n) - nI (ed gE n)) (hp (cN c5 gE w))) := key
      rw [e0] at key; exact key
    · refine b_X10_prune_67 (fun q => absurd q (nI_ge (b := 20) hk (by decide))) (fun _ => b_X10_prune_73 (Mk k) rfl (Mk k) rfl (H72 k) (nI_pos (by omega)) (at20 hk) (H71 k) (nI_pos (by omega)) (ln20 hk) ?_)
      have es := cpO_s (f := sv gE w) (o := sv g w) (b := 0) (k := k)
      rw [Nat.zero_add] at es
      rw [cl_nI (by omega), ar_upN, hp_set (by decide) (by decide), up1_up1, es, nI_1]
      exact ih
    · rw [cN_20]
      exact b_X10_prune_67 (fun _ => b_X10_prune_91 ⟨by rw [val], rfl⟩) (fun q => absurd (nI_le (a := 20) (b := 20) (Nat.le_refl _) (by decide)) q)
/-- the tree with a rank -/
def rkD (n r i : Nat) : Nat := r / n ^ (n - 3 - i) % n
def rkT (n r : Nat) : Nat → Nat := plT (rkD n r) n
theorem srQ_at {r : Nat} {q : Nat → Nat} : ∀ k, k ≤ n - 2 → ∀ i, i < n - 2 → srQ n r q k i = if n - 2 - k ≤ i then rkD n r i else q i
  | 0, _, i, hi => by
    rw [if_neg (by omega)]; rfl
  | k + 1, hk, i, hi => by
    show up1 (srQ n r q k) (n - 3 - k) (r / n ^ k % n) i = _
    by_cases e : i = n - 3 - k
    · rw [e, up1_same, if_pos (by omega)]
      unfold rkD
      rw [show n - 3 - (n - 3 - k) = k by omega]
    · rw [up1_ne _ _ e, srQ_at k (by omega) i hi]
      by_cases h : n - 2 - k ≤ i
      · rw [if_pos h, if_pos (by omega)]
      · rw [if_neg h, if_neg (by omega)]
theorem srQ_all {r : Nat} {q : Nat → Nat} {i : Nat} (hi : i < n - 2) : srQ n r q (n - 2) i = rkD n r i := by
  rw [srQ_at (n - 2) (Nat.le_refl _) i hi, if_pos (by omega)]
theorem rkD_lt {r i : Nat} (h1 : 1 ≤ n) : rkD n r i < n := Nat.mod_lt _ (by omega)
theorem nmU_ext {q p : Nat → Nat} {i : Nat} : ∀ k, (∀ j, j < k → q (i + j) = p (i + j)) → nmU q i k = nmU p i k
  | 0, _ => rfl
  | k + 1, h => by
    show nmU q i k ||| 2 ^ q (i + k) = nmU p i k ||| 2 ^ p (i + k)
    rw [nmU_ext k (fun j hj => h j (by omega)), h k (by omega)]
theorem pl_ext {q p : Nat → Nat} (h : ∀ i, i < n - 2 → q i = p i) : ∀ k, k ≤ n - 2 → plL q n k = plL p n k ∧ plG q n k = plG p n k
  | 0, _ => ⟨rfl, rfl⟩
  | k + 1, hk => by
    obtain ⟨h1, h2⟩ := pl_ext h k (by omega)
    have e : plV q n k (plL q n k) = plV p n k (plL p n k) := by
      unfold plV
      rw [h1, nmU_ext _ (fun j hj => h (k + j) (by omega))]
    constructor
    · show df (plL q n k) (2 ^ (plV q n k (plL q n k)).getD 0) = df (plL p n k) (2 ^ (plV p n k (plL p n k)).getD 0)
      rw [e, h1]
    · show jn (plG q n k) ((plV q n k (plL q n k)).getD 0) (q k) = jn (plG p n k) ((plV p n k (plL p n k)).getD 0) (p k)
      rw [e, h2, h k (by omega)]
theorem plT_ext {q p : Nat → Nat} (h : ∀ i, i < n - 2 → q i = p i) : plT q n = plT p n := by
  unfold plT
  rw [(pl_ext h (n - 2) (Nat.le_refl _)).1, (pl_ext h (n - 2) (Nat.le_refl _)).2]
theorem plT_rk {r : Nat} {q : Nat → Nat} : plT (srQ n r q (n - 2)) n = rkT n r := plT_ext fun i hi => srQ_all hi
theorem rkT_F {r : Nat} (h1 : 1 ≤ n) (hn : n ≤ 10) : FOR (rkT n r) n ∧ TR (rkT n r) n := pl_tree h1 hn (fun i _ => rkD_lt h1)
theorem r_becomes (R : RF c n g w) (X : HF c ch kp Hg Hw Sg Sw a) {r : Nat} (hr : r < 2147483648) : ∃ c', MSE m_X10_becomes (d + 3) [.ref 70, .int (nI r)] (hp c) (some (.int (nI (fre g (rkT n r) w n)))) (hp c') ∧ RF c' n (rkT n r) w ∧ HF c' (min (ch + 1) 8) kp (shH Hg g) (shH Hw w) Sg Sw (up1 a 4 (a 4 + 1)) ∧ KF c c' := by
  obtain ⟨z, hz, -⟩ := R.Z
  have hn := R.le
  have h1 := R.one
  obtain ⟨c3, m3, R3, X3, K3⟩ := r_remembers (d := d + 2) R X
  obtain ⟨z3, hz3, z39, z36⟩ := R3.Z
  obtain ⟨c4, hc4⟩ : ∃ c4, c4 = up1 c3 75 (ar 10 (up1 a 4 (a 4 + 1))) := ⟨_, rfl⟩
  have R4 : RF c4 n g w := by rw [hc4]; exact R3.up (by decide)
  have X4 : HF c4 (min (ch + 1) 8) kp (shH Hg g) (shH Hw w) Sg Sw (up1 a 4 (a 4 + 1)) := by rw [hc4]; exact X3.cnt
  have K4 : KF c3 c4 := by rw [hc4]; exact KF.up (by decide)
  have e75 : (hp c3).set 75 (100, (ar 10 a).set (4 : Int32).toNatClampNeg (.int (a 4 + 1))) = hp c4 := by
    rw [hc4, show (4 : Int32) = nI 4 from rfl, acc_set (i := 4) (by decide), hp_set (by decide) (by decide)]
  have hz4 : c4 70 = moL z3 := by rw [hc4]; exact (up1_ne _ _ (by decide)).trans hz3
  obtain ⟨q, hq⟩ := R4.S.2.2.1
  have m5 := r_decodes (d := d + 1) hz4 hq hn hr
  obtain ⟨q5, hq5⟩ : ∃ q5, q5 = srQ n r q (n - 2) := ⟨_, rfl⟩
  rw [← hq5] at m5
  have R5 : RF (cQ c4 q5) n g w := R4.up2 (by decide) R4.S.r78
  have X5 : HF (cQ c4 q5) (min (ch + 1) 8) kp (shH Hg g) (shH Hw w) Sg Sw (up1 a 4 (a 4 + 1)) := X4.up (by decide)
  have hz5 : cQ c4 q5 70 = moL z3 := (up1_ne _ _ (by decide)).trans hz4
  obtain ⟨o, ho⟩ := R5.S.1
  rw [sv_any] at ho
  have m6 := r_grows (d := d) hz5 ho (q := q5) (up1_same _ _ _) h1 hn (fun i hi => by rw [hq5, srQ_all hi]; exact rkD_lt h1)
  have eT : plT q5 n = rkT n r := by rw [hq5]; exact plT_rk
  rw [eT] at m6
  obtain ⟨w6, hw6⟩ : ∃ w6 : Nat → Nat, w6 = fun i => o (10 + i) := ⟨_, rfl⟩
  rw [← hw6] at m6
  obtain ⟨c6, hc6⟩ : ∃ c6, c6 = cG (cQ c4 q5) z3 n (rkT n r) w6 := ⟨_, rfl⟩
  rw [← hc6] at m6
  have R5' : RF (cX (cQ c4 q5) (rkT n r) w6) n g w := R5.up2 (by decide) R5.S.r72
  have X5' : HF (cX (cQ c4 q5) (rkT n r) w6) (min (ch + 1) 8) kp (shH Hg g) (shH Hw w) Sg Sw (up1 a 4 (a 4 + 1)) := X5.up (by decide)
  have hz5' : cX (cQ c4 q5) (rkT n r) w6 70 = moL z3 := (up1_ne _ _ (by decide)).trans hz5
  have e670 : c6 70 = moL (up1 z3 10 (nI n)) := by rw [hc6]; exact up1_same _ _ _
  have e6 : ∀ i, i ≠ 70 → c6 i = cX (cQ c4 q5) (rkT n r) w6 i := fun i hi => by rw [hc6]; exact up1_ne _ _ hi
  have R6 : RF c6 n g w := R5'.same (R5'.S.same (fun i hi => e6 i (by omega))) (e6 71 (by decide)) hz5' e670 rfl rfl
  have X6 : HF c6 (min (ch + 1) 8) kp (shH Hg g) (shH Hw w) Sg Sw (up1 a 4 (a 4 + 1)) := X5'.same (fun i hi => e6 i (by omega)) hz5' e670 rfl rfl
  have F6 := (rkT_F (r := r) h1 hn).1
  have m7 := r_comes (d := d) R6 ((e6 72 (by decide)).trans (up1_same _ _ _)) F6.1
  have K6 : KF c4 c6 := by
    rw [hc6]
    exact ((KF.up (i := 78) (by decide)).tr (KF.up (i := 72) (by decide))).tr (KF.zz hz5' (by decide))
  have f6 : (moL z3)[6]? = some (.int (nI n)) := by rw [← z36]; rfl
  exact ⟨_, e_X10_becomes (b_X10_becomes_0 (mo_H hz) m3 (mo_H hz3) rfl X3.A (by decide) (acc_at (i := 4) (by decide)) X3.A (by decide) (acc_ln (i := 4) (by decide)) (by rw [e75]; exact mo_H hz4) f6 (by rw [e75]; exact mo_H hz4) (by rw [e75]; exact m5) (mo_H hz5) f6 (mo_H hz5) m6 (mo_H e670) m7 ⟨rfl, rfl⟩), R6.now F6 R.w99, X6.up (by decide), ((K3.tr K4).tr K6).tr KF.nowK⟩
theorem q_fromRank (R : RF c n g w) (X : HF c ch kp Hg Hw Sg Sw a) {r : Nat} (hr : r < n ^ (n - 2)) : ∃ c', MSE m_X10_fromRank (d + 4) [.ref 70, .int (nI r)] (hp c) (some (.int (nI (fre g (rkT n r) w n)))) (hp c') ∧ RF c' n (rkT n r) w ∧ HF c' (min (ch + 1) 8) kp (shH Hg g) (shH Hw w) Sg Sw (up1 a 4 (a 4 + 1)) ∧ CF c c' 0 := by
  obtain ⟨z, hz, h2, h3⟩ := R.Z
  have hn := R.le
  have Q := QF.th (t := 0) R.S hz
  have hp2 := pow_trees n hn
  obtain ⟨c3, m3, R3, X3, K3⟩ := r_becomes (d := d) (R.q Q) (X.q Q) (r := r) (by omega)
  exact ⟨_, e_X10_fromRank (b_X10_fromRank_0 (mo_H hz) (R.z6 hz) (r_ranks (d := d + 2) hn) (r_isInV hp2) (fun _ => b_X10_fromRank_22 (b_X10_fromRank_23 (mo_H hz) (r_fails0 hz) (fun _ => b_X10_fromRank_34 cT_H m3 (b_X10_fromRank_39 ⟨rfl, rfl⟩)) (fun q => absurd rfl q))) (fun q => absurd q (nv1 (isV_t hr)))), R3, X3, Q.C.k K3⟩
theorem q_fromRankX (R : RF c n g w) (h : isV (n ^ (n - 2)) x = false) : ∃ c', MSE m_X10_fromRank (d + 4) [.ref 70, .int x] (hp c) (some (.int 0)) (hp c') ∧ QF c c' 1 := by
  obtain ⟨z, hz, h2, h3⟩ := R.Z
  have hn := R.le
  have hp2 := pow_trees n hn
  exact ⟨_, e_X10_fromRank (b_X10_fromRank_0 (mo_H hz) (R.z6 hz) (r_ranks (d := d + 2) hn) (r_isInV hp2) (fun q => absurd (nv0 h) q) (fun _ => b_X10_fromRank_18 (b_X10_fromRank_23 (mo_H hz) (r_fails1 hz) (fun q => absurd q (by decide)) (fun _ => b_X10_fromRank_30 (b_X10_fromRank_39 ⟨rfl, rfl⟩))))), QF.th R.S hz⟩
end
