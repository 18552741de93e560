section
variable {d n t ch kp : Nat} {c c' c'' : Nat → List Value} {g w g1 w1 : Nat → Nat} {z : Nat → Int32} {x y : Int32} {a : Nat → Int32} {Hg Hw Sg Sw : Nat → Nat → Nat}
/-! the next tree, snapshots -/
theorem tkN_lt (G : GR g n) (h1 : 1 ≤ n) (k : Nat) : tkN g n k < n := by
  unfold tkN
  cases e : low (g ((lf g n (tkL g n k)).getD 0) &&& tkL g n k) with
  | none => exact h1
  | some u =>
    have := low_bit e
    rw [Nat.testBit_and, Bool.and_eq_true] at this
    exact G.lt this.1
theorem rk_lt {q : Nat → Nat} (hq : ∀ i, q i < n) : ∀ k, rk n q k < n ^ k
  | 0 => by show 0 < n ^ 0; rw [Nat.pow_zero]; decide
  | k + 1 => by
    show rk n q k * n + q k < n ^ (k + 1)
    have h := rk_lt hq k
    have h2 := hq k
    have h3 : rk n q k * n + n ≤ n ^ k * n := by
      have : (rk n q k + 1) * n ≤ n ^ k * n := Nat.mul_le_mul_right n h
      rw [Nat.succ_mul] at this; exact this
    rw [Nat.pow_succ]
    omega
theorem rk_tk (G : GR g n) (h1 : 1 ≤ n) : rk n (tkN g n) (n - 2) < n ^ (n - 2) := rk_lt (tkN_lt G h1) _
theorem q_nextTreeN (R : RF c n g w) (X : HF c ch kp Hg Hw Sg Sw a) (T : ¬ TR g n) : ∃ c', MSE m_X10_nextTree (d + 4) [.ref 70] (hp c) (some (.int (-1))) (hp c') ∧ RF c' n g w ∧ HF c' ch kp Hg Hw Sg Sw (up1 a 8 (a 8 + 1)) ∧ CF c c' 0 := by
  obtain ⟨z, hz, h2, h3⟩ := R.Z
  have hn := R.le
  have Q := QF.th (t := 0) R.S hz
  have R2 := R.q Q
  have X2 := X.q Q
  have hp2 := pow_trees n hn
  have ht : decide (comp g n 0 = al n) = false := decide_eq_false (fun e => T ((tr_al R.F.1 hn R.one).mp e))
  have f6 := R2.z6 (up1_same _ _ _)
  refine ⟨_, e_X10_nextTree (b_X10_nextTree_0 (mo_H hz) (by show 0 < 27; decide) (by rw [th0]; exact cT_H) (by rw [th0]; exact r_isTree (d := d) R2) (fun _ => ?_) (fun q => absurd (nv0 ht) q)), R2.up (by decide), X2.cnt, Q.C.k (KF.up (by decide))⟩
  exact b_X10_nextTree_21 cT_H f6 (r_ranks (d := d + 2) hn) (b_X10_nextTree_28 cT_H f6 (r_ranks (d := d + 2) hn) (fun q => absurd rfl q) (fun _ => b_X10_nextTree_40 cT_H (r_counts X2 (i := 8) (by decide)) ⟨rfl, rfl⟩))
theorem q_nextTreeL (R : RF c n g w) (X : HF c ch kp Hg Hw Sg Sw a) (T : TR g n) (hr : rk n (tkN g n) (n - 2) + 1 = n ^ (n - 2)) : ∃ c', MSE m_X10_nextTree (d + 4) [.ref 70] (hp c) (some (.int (-1))) (hp c') ∧ RF c' n g w ∧ HF c' ch kp Hg Hw Sg Sw (up1 a 8 (a 8 + 1)) ∧ CF c c' 0 := by
  obtain ⟨z, hz, h2, h3⟩ := R.Z
  have hn := R.le
  have Q := QF.th (t := 0) R.S hz
  have R2 := R.q Q
  have hp2 := pow_trees n hn
  have ht : decide (comp g n 0 = al n) = true := decide_eq_true ((tr_al R.F.1 hn R.one).mpr T)
  obtain ⟨q, hq⟩ := R2.S.2.2.1
  obtain ⟨g1, m1⟩ := r_rankNow (d := d) R2 T hq
  have Q3 := Q.xc (g1 := g1) (w := w) (q := tkQ g n q (n - 2))
  obtain ⟨c3, hc3⟩ : ∃ c3, c3 = cXC (cT c z (nI 0)) g1 w (tkQ g n q (n - 2)) := ⟨_, rfl⟩
  rw [← hc3] at m1 Q3
  have R3 := R.q Q3
  have X3 := X.q Q3
  obtain ⟨z3, hz3, -, z36⟩ := R3.Z
  have f6 := R3.z6 hz3
  refine ⟨_, e_X10_nextTree (b_X10_nextTree_0 (mo_H hz) (by show 0 < 27; decide) (by rw [th0]; exact cT_H) (by rw [th0]; exact r_isTree (d := d) R2) (fun q => absurd q (nv1 ht)) (fun _ => ?_)), R3.up (by decide), X3.cnt, Q3.C.k (KF.up (by decide))⟩
  refine b_X10_nextTree_12 cT_H m1 ?_
  rw [nI_1, hr]
  exact b_X10_nextTree_28 (mo_H hz3) f6 (r_ranks (d := d + 2) hn) (fun q => absurd rfl q) (fun _ => b_X10_nextTree_40 (mo_H hz3) (r_counts X3 (i := 8) (by decide)) ⟨rfl, rfl⟩)
theorem q_nextTree (R : RF c n g w) (X : HF c ch kp Hg Hw Sg Sw a) (T : TR g n) {r : Nat} (hrk : rk n (tkN g n) (n - 2) + 1 = r) (hr : r < n ^ (n - 2)) : ∃ c', MSE m_X10_nextTree (d + 4) [.ref 70] (hp c) (some (.int (nI r))) (hp c') ∧ RF c' n (rkT n r) w ∧ HF c' (min (ch + 1) 8) kp (shH Hg g) (shH Hw w) Sg Sw (up1 a 4 (a 4 + 1)) ∧ CF c c' 0 := by
  obtain ⟨z, hz, h2, h3⟩ := R.Z
  have hn := R.le
  have Q := QF.th (t := 0) R.S hz
  have R2 := R.q Q
  have hp2 := pow_trees n hn
  have ht : decide (comp g n 0 = al n) = true := decide_eq_true ((tr_al R.F.1 hn R.one).mpr T)
  obtain ⟨q, hq⟩ := R2.S.2.2.1
  obtain ⟨g1, m1⟩ := r_rankNow (d := d) R2 T hq
  have Q3 := Q.xc (g1 := g1) (w := w) (q := tkQ g n q (n - 2))
  obtain ⟨c3, hc3⟩ : ∃ c3, c3 = cXC (cT c z (nI 0)) g1 w (tkQ g n q (n - 2)) := ⟨_, rfl⟩
  rw [← hc3] at m1 Q3
  have R3 := R.q Q3
  have X3 := X.q Q3
  obtain ⟨z3, hz3, -, z36⟩ := R3.Z
  have f6 := R3.z6 hz3
  obtain ⟨c5, m5, R5, X5, K5⟩ := r_becomes (d := d) R3 X3 (r := r) (by omega)
  refine ⟨_, e_X10_nextTree (b_X10_nextTree_0 (mo_H hz) (by show 0 < 27; decide) (by rw [th0]; exact cT_H) (by rw [th0]; exact r_isTree (d := d) R2) (fun q => absurd q (nv1 ht)) (fun _ => ?_)), R5, X5, Q3.C.k K5⟩
  refine b_X10_nextTree_12 cT_H m1 ?_
  rw [nI_1, hrk]
  exact b_X10_nextTree_28 (mo_H hz3) f6 (r_ranks (d := d + 2) hn) (fun _ => b_X10_nextTree_48 (mo_H hz3) m5 ⟨rfl, rfl⟩) (fun q => absurd ((i_eq (by omega) hp2).mp q) (by omega))
theorem q_keepX (R : RF c n g w) (h : x < 0 ∨ 2 < x) : ∃ c', MSE m_X10_keep (d + 1) [.ref 70, .int x] (hp c) (some (.int 0)) (hp c') ∧ QF c c' 1 := by
  obtain ⟨z, hz, h2, h3⟩ := R.Z
  exact ⟨_, e_X10_keep (b_X10_keep_0 (isIn_0 h) (fun q => absurd rfl q) (fun _ => b_X10_keep_10 (b_X10_keep_15 (mo_H hz) (r_fails1 hz) (fun q => absurd q (by decide)) (fun _ => b_X10_keep_22 ⟨rfl, rfl⟩)))), QF.th R.S hz⟩
theorem q_restoreX (R : RF c n g w) (h : x < 0 ∨ 2 < x) : ∃ c', MSE m_X10_restore (d + 1) [.ref 70, .int x] (hp c) (some (.int 0)) (hp c') ∧ QF c c' 1 := by
  obtain ⟨z, hz, h2, h3⟩ := R.Z
  exact ⟨_, e_X10_restore (b_X10_restore_0 (isIn_0 h) (fun q => absurd rfl q) (fun _ => b_X10_restore_10 (b_X10_restore_15 (mo_H hz) (r_fails1 hz) (fun q => absurd q (by decide)) (fun _ => b_X10_restore_22 ⟨rfl, rfl⟩)))), QF.th R.S hz⟩
theorem q_keep (R : RF c n g w) (X : HF c ch kp Hg Hw Sg Sw a) {s : Nat} (hs : s < 3) : ∃ c', MSE m_X10_keep (d + 1) [.ref 70, .int (nI s)] (hp c) (some (.int (nI (if kp.testBit s = true then 1 else 0)))) (hp c') ∧ RF c' n g w ∧ HF c' ch (kp ||| 2 ^ s) Hg Hw (up1 Sg s g) (up1 Sw s w) a ∧ CF c c' 0 := by
  obtain ⟨z, hz, h2, h3⟩ := R.Z
  have hn := R.le
  have Q := QF.th (t := 0) R.S hz
  have R2 := R.q Q
  obtain ⟨x1, x2, ⟨z0, hz0, z07, z08⟩, x4, ⟨f, hf, hfS⟩, x6⟩ := X.q Q
  have f8 : (moL z0)[8]? = some (.int (nI kp)) := by rw [← z08]; rfl
  have H0 := mo_H hz0
  obtain ⟨z3, hz3⟩ : ∃ z3, z3 = up1 z0 8 (nI (kp ||| 2 ^ s)) := ⟨_, rfl⟩
  obtain ⟨c3, hc3⟩ : ∃ c3, c3 = up1 (cT c z (nI 0)) 70 (moL z3) := ⟨_, rfl⟩
  have e70 : c3 70 = moL z3 := by rw [hc3]; exact up1_same _ _ _
  have eo : ∀ i, i ≠ 70 → c3 i = cT c z (nI 0) i := fun i hi => by rw [hc3]; exact up1_ne _ _ hi
  have K3 : KF (cT c z (nI 0)) c3 := by rw [hc3, hz3]; exact KF.zz hz0 (by decide)
  have R3 : RF c3 n g w := R2.same (R2.S.same (fun i hi => eo i (by omega))) (eo 71 (by decide)) hz0 e70 (by rw [hz3]; exact up1_ne _ _ (by decide)) (by rw [hz3]; exact up1_ne _ _ (by decide))
  refine ⟨up1 c3 74 (ar 60 (fun i => nI (cpO (sv g w) f (20 * s) 20 i))), e_X10_keep (b_X10_keep_0 (isIn_1 (a := 0) (m := 2) (by decide) (by decide) (Nat.zero_le _) (by omega)) (fun _ => b_X10_keep_14 (b_X10_keep_15 (mo_H hz) (r_fails0 hz) (fun _ => b_X10_keep_24 H0 f8 (r_has (by omega) (by omega)) H0 f8 H0 (by show 8 < 27; decide) ?_) (fun q => absurd rfl q))) (fun q => absurd q (by decide))), R3.up (by decide), ?_, (Q.C.k K3).k (KF.up (by decide))⟩
  · rw [i_shl1 (by omega), i_or, moS8, hp_set (by decide) (by decide), ← hz3, ← hc3]
    have M := fun k => mo_H (c := up1 c3 74 (ar 60 (fun i => nI (cpO (sv g w) f (20 * s) k i)))) ((up1_ne _ _ (by decide)).trans e70)
    have H71 := fun k => hp_is (c := up1 c3 74 (ar 60 (fun i => nI (cpO (sv g w) f (20 * s) k i)))) 71 100 ((up1_ne _ _ (by decide)).trans R3.row) (by decide) (by decide)
    have H74 := fun k => hp_is (c := up1 c3 74 (ar 60 (fun i => nI (cpO (sv g w) f (20 * s) k i)))) 74 100 (up1_same _ _ _) (by decide) (by decide)
    have key := up_all (n := 20) (T := fun k => a_X10_keep_47 (d + 1) 0 0 70 (nI s) (nI (if kp.testBit s = true then 1 else 0)) (nI k) (hp (up1 c3 74 (ar 60 (fun i => nI (cpO (sv g w) f (20 * s) k i))))) (rI (nI (if kp.testBit s = true then 1 else 0)) (hp (up1 c3 74 (ar 60 (fun i => nI (cpO (sv g w) f (20 * s) 20 i))))))) (fun k hk ih => ?_) ?_
    · have e0 : up1 c3 74 (ar 60 (fun i => nI (cpO (sv g w) f (20 * s) 0 i))) = c3 := by rw [cpO_0]; exact up1_id ((eo 74 (by decide)).trans hf)
      have key : a_X10_keep_47 (d + 1) 0 0 70 (nI s) (nI (if kp.testBit s = true then 1 else 0)) (nI 0) (hp (up1 c3 74 (ar 60 (fun i => nI (cpO (sv g w) f (20 * s) 0 i))))) (rI (nI (if kp.testBit s = true then 1 else 0)) (hp (up1 c3 74 (ar 60 (fun i => nI (cpO (sv g w) f (20 * s) 20 i)))))) := key
      rw [e0] at key; exact key
    · have e1 : (20 : Int32) * nI s + nI k = nI (20 * s + k) := by
        rw [show (20 : Int32) = nI 20 from rfl, pk_mul, nI_add]
      refine b_X10_keep_47 (fun q => absurd q (nI_ge (b := 20) hk (by decide))) (fun _ => b_X10_keep_53 (M k) rfl (M k) rfl (H71 k) (nI_pos (by omega)) (at20 hk) (H74 k) (by rw [e1]; exact nI_pos (by omega)) (by rw [e1, cl_nI (by omega), ar_len]; omega) ?_)
      rw [e1, cl_nI (by omega), ar_upN, hp_set (by decide) (by decide), up1_up1, cpO_s, nI_1]
      exact ih
    · exact b_X10_keep_47 (fun _ => b_X10_keep_76 bl01 ⟨rfl, rfl⟩) (fun q => absurd (nI_le (a := 20) (b := 20) (Nat.le_refl _) (by decide)) q)
  · have h8 : kp ||| 2 ^ s < 8 := Nat.or_lt_two_pow (n := 3) x2 (Nat.pow_lt_pow_right (by decide) hs)
    refine ⟨x1, h8, ⟨z3, (up1_ne _ _ (by decide)).trans e70, by rw [hz3, up1_ne _ _ (by decide)]; exact z07, by rw [hz3]; exact up1_same _ _ _⟩, ?_, ⟨_, up1_same _ _ _, fun s' i hs' hb hi => ?_⟩, ?_⟩
    · rw [up1_ne _ _ (by decide), eo 73 (by decide)]; exact x4
    · by_cases e : s' = s
      · subst e
        rw [cpO_in (by omega) (by omega), up1_same, up1_same]
        exact congrArg (sv g w) (by omega)
      · rw [up1_ne _ _ e, up1_ne _ _ e, cpO_out (by omega)]
        refine hfS s' i hs' ?_ hi
        rw [Nat.testBit_or, Bool.or_eq_true, pow_bit, decide_eq_true_eq] at hb
        rcases hb with h | h
        · exact h
        · exact absurd h.symm e
    · rw [up1_ne _ _ (by decide), eo 75 (by decide)]; exact x6
theorem q_restore0 (R : RF c n g w) (X : HF c ch kp Hg Hw Sg Sw a) {s : Nat} (hs : s < 3) (hb : kp.testBit s = false) : ∃ c', MSE m_X10_restore (d + 1) [.ref 70, .int (nI s)] (hp c) (some (.int 0)) (hp c') ∧ RF c' n g w ∧ HF c' ch kp Hg Hw Sg Sw (up1 a 9 (a 9 + 1)) ∧ CF c c' 0 := by
  obtain ⟨z, hz, h2, h3⟩ := R.Z
  have Q := QF.th (t := 0) R.S hz
  have X2 := X.q Q
  have hk8 := X.2.1
  obtain ⟨z0, hz0, z07, z08⟩ := X2.M
  have f8 : (moL z0)[8]? = some (.int (nI kp)) := by rw [← z08]; rfl
  have H0 := mo_H hz0
  refine ⟨_, e_X10_restore (b_X10_restore_0 (isIn_1 (a := 0) (m := 2) (by decide) (by decide) (Nat.zero_le _) (by omega)) (fun _ => b_X10_restore_14 (b_X10_restore_15 (mo_H hz) (r_fails0 hz) (fun _ => b_X10_restore_24 H0 f8 (r_has (by omega) (by omega)) (fun q => absurd q ?_) (fun _ => b_X10_restore_35 H0 rfl X2.A (by decide) (acc_at (i := 9) (by decide)) X2.A (by decide) (acc_ln (i := 9) (by decide)) ⟨rfl, ?_⟩)) (fun q => absurd rfl q))) (fun q => absurd q (by decide))), (R.q Q).up (by decide), X2.cnt, Q.C.k (KF.up (by decide))⟩
  · rw [hb]; decide
  · rw [show (9 : Int32) = nI 9 from rfl, acc_set (i := 9) (by decide), hp_set (by decide) (by decide)]
theorem q_restore (R : RF c n g w) (X : HF c ch kp Hg Hw Sg Sw a) {s : Nat} (hs : s < 3) (hb : kp.testBit s = true) (F : FOR (Sg s) n) (h99 : ∀ i, Sw s i ≤ 99) : ∃ c', MSE m_X10_restore (d + 1) [.ref 70, .int (nI s)] (hp c) (some (.int 1)) (hp c') ∧ RF c' n (Sg s) (Sw s) ∧ HF c' (min (ch + 1) 8) kp (shH Hg g) (shH Hw w) Sg Sw a ∧ CF c c' 0 := by
  obtain ⟨z, hz, h2, h3⟩ := R.Z
  have Q := QF.th (t := 0) R.S hz
  have X2 := X.q Q
  have hk8 := X.2.1
  obtain ⟨z0, hz0, z07, z08⟩ := X2.M
  have f8 : (moL z0)[8]? = some (.int (nI kp)) := by rw [← z08]; rfl
  have H0 := mo_H hz0
  obtain ⟨c3, m3, R3, X3, K3⟩ := r_remembers (d := d) (R.q Q) X2
  obtain ⟨z3, hz3, -⟩ := R3.Z
  obtain ⟨f, hf, hfS⟩ := X3.2.2.2.2.1
  have row : ∀ i, i < 20 → f (20 * s + i) = sv (Sg s) (Sw s) i := fun i hi => hfS s i hs hb hi
  have M := fun k => mo_H (c := up1 c3 71 (ar 20 (fun i => nI (cpO (sv (Sg s) (Sw s)) (sv g w) 0 k i)))) ((up1_ne _ _ (by decide)).trans hz3)
  have H71 := fun k => hp_is (c := up1 c3 71 (ar 20 (fun i => nI (cpO (sv (Sg s) (Sw s)) (sv g w) 0 k i)))) 71 100 (up1_same _ _ _) (by decide) (by decide)
  have H74 := fun k => hp_is (c := up1 c3 71 (ar 20 (fun i => nI (cpO (sv (Sg s) (Sw s)) (sv g w) 0 k i)))) 74 100 ((up1_ne _ _ (by decide)).trans hf) (by decide) (by decide)
  refine ⟨cN c3 (Sg s) (Sw s), e_X10_restore (b_X10_restore_0 (isIn_1 (a := 0) (m := 2) (by decide) (by decide) (Nat.zero_le _) (by omega)) (fun _ => b_X10_restore_14 (b_X10_restore_15 (mo_H hz) (r_fails0 hz) (fun _ => b_X10_restore_24 H0 f8 (r_has (by omega) (by omega)) (fun _ => b_X10_restore_48 cT_H m3 ?_) (fun q => absurd q ?_)) (fun q => absurd rfl q))) (fun q => absurd q (by decide))), R3.now F h99, X3.up (by decide), (Q.C.k K3).k KF.nowK⟩
  · have key := up_all (n := 20) (T := fun k => a_X10_restore_54 (d + 1) 0 0 70 (nI s) (nI k) (hp (up1 c3 71 (ar 20 (fun i => nI (cpO (sv (Sg s) (Sw s)) (sv g w) 0 k i))))) (rI 1 (hp (cN c3 (Sg s) (Sw s))))) (fun k hk ih => ?_) ?_
    · have e0 : up1 c3 71 (ar 20 (fun i => nI (cpO (sv (Sg s) (Sw s)) (sv g w) 0 0 i))) = c3 := by rw [cpO_0]; exact up1_id R3.row
      have key : a_X10_restore_54 (d + 1) 0 0 70 (nI s) (nI 0) (hp (up1 c3 71 (ar 20 (fun i => nI (cpO (sv (Sg s) (Sw s)) (sv g w) 0 0 i))))) (rI 1 (hp (cN c3 (Sg s) (Sw s)))) := key
      rw [e0] at key; exact key
    · have e1 : (20 : Int32) * nI s + nI k = nI (20 * s + k) := by
        rw [show (20 : Int32) = nI 20 from rfl, pk_mul, nI_add]
      refine b_X10_restore_54 (fun q => absurd q (nI_ge (b := 20) hk (by decide))) (fun _ => b_X10_restore_60 (x11 := nI (sv (Sg s) (Sw s) k)) (M k) rfl (M k) rfl (H74 k) (by rw [e1]; exact nI_pos (by omega)) (by rw [e1, cl_nI (by omega), ar_at _ (by omega), row k hk]) (H71 k) (nI_pos (by omega)) (ln20 hk) ?_)
      have es := cpO_s (f := sv (Sg s) (Sw s)) (o := sv g w) (b := 0) (k := k)
      rw [Nat.zero_add] at es
      rw [cl_nI (by omega), ar_upN, hp_set (by decide) (by decide), up1_up1, es, nI_1]
      exact ih
    · rw [cN_20]
      exact b_X10_restore_54 (fun _ => b_X10_restore_83 ⟨rfl, rfl⟩) (fun q => absurd (nI_le (a := 20) (b := 20) (Nat.le_refl _) (by decide)) q)
  · rw [hb]; decide
end
