section
variable {d n t ch kp : Nat} {c c' c'' : Nat → List Value} {g w g1 w1 : Nat → Nat} {z : Nat → Int32} {x y : Int32} {a : Nat → Int32} {Hg Hw Sg Sw : Nat → Nat → Nat}
/-! the reference's changes -/
theorem KF.nowK : KF c (cN c g w) := KF.up (by decide)
theorem sv_any {o : Nat → Nat} : ar 20 (fun i => nI (o i)) = ar 20 (fun i => nI (sv o (fun i => o (10 + i)) i)) := ar_ext fun i _ => by
  unfold sv
  by_cases h : i < 10
  · rw [if_pos h]
  · rw [if_neg h]
    show nI (o i) = nI (o (10 + (i - 10)))
    rw [show 10 + (i - 10) = i by omega]
theorem q_undo0 (R : RF c n g w) (X : HF c 0 kp Hg Hw Sg Sw a) : ∃ c', MSE m_X10_undo d [.ref 70] (hp c) (some (.int (-1))) (hp c') ∧ RF c' n g w ∧ HF c' 0 kp Hg Hw Sg Sw a ∧ CF c c' 0 := by
  obtain ⟨z, hz, h7, h8⟩ := X.M
  have Q := QF.th (t := 0) R.S hz
  refine ⟨_, e_X10_undo (b_X10_undo_0 (x5 := nI 0) (mo_H hz) (by show 0 < 27; decide) (by rw [th0]; exact cT_H) (by rw [← h7]; rfl) (fun q => absurd rfl q) (fun _ => b_X10_undo_12 ⟨rfl, th0⟩)), R.q Q, X.q Q, Q.C⟩
theorem q_undo (R : RF c n g w) (X : HF c (ch + 1) kp Hg Hw Sg Sw a) (F : FOR (Hg 0) n) (h99 : ∀ i, Hw 0 i ≤ 99) : ∃ c', MSE m_X10_undo d [.ref 70] (hp c) (some (.int (nI ch))) (hp c') ∧ RF c' n (Hg 0) (Hw 0) ∧ HF c' ch kp (fun j => Hg (j + 1)) (fun j => Hw (j + 1)) Sg Sw a ∧ CF c c' 0 := by
  obtain ⟨z, hz, h7, h8⟩ := X.M
  have Q := QF.th (t := 0) R.S hz
  have R1 := R.q Q
  have X1 := X.q Q
  obtain ⟨x1, x2, -, ⟨f, h3, hf⟩, x5, x6⟩ := X1
  have f7 : (moL (up1 z 0 (nI 0)))[7]? = some (.int (nI (ch + 1))) := by rw [← h7]; rfl
  obtain ⟨z2, hz2⟩ : ∃ z2, z2 = up1 (up1 z 0 (nI 0)) 7 (nI ch) := ⟨_, rfl⟩
  obtain ⟨c2, hc2⟩ : ∃ c2, c2 = up1 (cT c z (nI 0)) 70 (moL z2) := ⟨_, rfl⟩
  have e2 : c2 70 = moL z2 := by rw [hc2]; exact up1_same _ _ _
  have e7 : (moL z2)[7]? = some (.int (nI ch)) := by rw [hz2]; rfl
  have o2 : ∀ i, i ≠ 70 → c2 i = cT c z (nI 0) i := fun i hi => by rw [hc2]; exact up1_ne _ _ hi
  have KK : KF (cT c z (nI 0)) c2 := by rw [hc2, hz2]; exact KF.zz (up1_same _ _ _) (by decide)
  have R2 : RF c2 n g w := R1.same (R1.S.same (fun i hi => o2 i (by omega))) (o2 71 (by decide)) (up1_same _ _ _) e2 (by rw [hz2]; exact up1_ne _ _ (by decide)) (by rw [hz2]; exact up1_ne _ _ (by decide))
  obtain ⟨gg, hgg⟩ : ∃ gg : Nat → Nat, gg = sv (Hg 0) (Hw 0) := ⟨_, rfl⟩
  have row : ∀ i, i < 20 → f (20 * ch + i) = gg i := fun i hi => by rw [hgg]; exact hf 0 i (by omega) hi
  have M := fun k => mo_H (c := up1 c2 71 (ar 20 (fun i => nI (cpO gg (sv g w) 0 k i)))) ((up1_ne _ _ (by decide)).trans e2)
  have H71 := fun k => hp_is (c := up1 c2 71 (ar 20 (fun i => nI (cpO gg (sv g w) 0 k i)))) 71 100 (up1_same _ _ _) (by decide) (by decide)
  have H73 := fun k => hp_is (c := up1 c2 71 (ar 20 (fun i => nI (cpO gg (sv g w) 0 k i)))) 73 100 ((up1_ne _ _ (by decide)).trans ((o2 73 (by decide)).trans h3)) (by decide) (by decide)
  have eE : up1 c2 71 (ar 20 (fun i => nI (cpO gg (sv g w) 0 20 i))) = cN c2 (Hg 0) (Hw 0) := by
    unfold cN
    rw [ar_ext (fun i hi => by rw [cpO_in (Nat.zero_le i) (by omega), Nat.sub_zero, hgg])]
  refine ⟨cN c2 (Hg 0) (Hw 0), e_X10_undo (b_X10_undo_0 (x5 := nI (ch + 1)) (mo_H hz) (by show 0 < 27; decide) (by rw [th0]; exact cT_H) f7 (fun _ => ?_) (fun q => absurd ((i_eq0 (by omega)).mp q) (by omega))), R2.now F h99, ?_, (Q.C.k KK).k KF.nowK⟩
  · rw [th0]
    refine b_X10_undo_14 cT_H f7 cT_H (by show 7 < 27; decide) ?_
    rw [show nI (ch + 1) - 1 = nI ch from nI_pred _, moS7, hp_set (by decide) (by decide), ← hz2, ← hc2]
    have key := up_all (n := 20) (T := fun k => a_X10_undo_26 d 0 0 70 (nI k) (hp (up1 c2 71 (ar 20 (fun i => nI (cpO gg (sv g w) 0 k i))))) (rI (nI ch) (hp (cN c2 (Hg 0) (Hw 0))))) (fun k hk ih => ?_) ?_
    · have e0 : up1 c2 71 (ar 20 (fun i => nI (cpO gg (sv g w) 0 0 i))) = c2 := by rw [cpO_0]; exact up1_id R2.row
      have key : a_X10_undo_26 d 0 0 70 (nI 0) (hp (up1 c2 71 (ar 20 (fun i => nI (cpO gg (sv g w) 0 0 i))))) (rI (nI ch) (hp (cN c2 (Hg 0) (Hw 0)))) := key
      rw [e0] at key; exact key
    · have e1 : (20 : Int32) * nI ch + nI k = nI (20 * ch + k) := by
        rw [show (20 : Int32) = nI 20 from rfl, pk_mul, nI_add]
      refine b_X10_undo_26 (fun q => absurd q (nI_ge (b := 20) hk (by decide))) (fun _ => b_X10_undo_32 (x12 := nI (gg k)) (M k) rfl (M k) rfl (M k) e7 (H73 k) (by rw [e1]; exact nI_pos (by omega)) (by rw [e1, cl_nI (by omega), ar_at _ (by omega), row k hk]) (H71 k) (nI_pos (by omega)) (ln20 hk) ?_)
      have es := cpO_s (f := gg) (o := sv g w) (b := 0) (k := k)
      rw [Nat.zero_add] at es
      rw [cl_nI (by omega), ar_upN, hp_set (by decide) (by decide), up1_up1, es, nI_1]
      exact ih
    · have M20 := M 20
      rw [eE] at M20 ⊢
      exact b_X10_undo_26 (fun _ => b_X10_undo_58 M20 e7 ⟨rfl, rfl⟩) (fun q => absurd (nI_le (a := 20) (b := 20) (Nat.le_refl _) (by decide)) q)
  · refine ⟨by omega, x2, ⟨z2, (up1_ne _ _ (by decide)).trans e2, by rw [hz2]; exact up1_same _ _ _, by rw [hz2, up1_ne _ _ (by decide), up1_ne _ _ (by decide)]; exact h8⟩, ⟨f, (up1_ne _ _ (by decide)).trans ((o2 73 (by decide)).trans h3), fun j i hj hi => ?_⟩, ?_, ?_⟩
    · rw [← hf (j + 1) i (by omega) hi]
      exact congrArg f (by omega)
    · rw [show cN c2 (Hg 0) (Hw 0) 74 = c2 74 from up1_ne _ _ (by decide), o2 74 (by decide)]; exact x5
    · rw [show cN c2 (Hg 0) (Hw 0) 75 = c2 75 from up1_ne _ _ (by decide), o2 75 (by decide)]; exact x6
/-- the edges of the other row come -/
theorem r_comes (R : RF c n g w) (h2 : c 72 = ar 20 (fun i => nI (sv g1 w1 i))) (G : GR g1 n) : MSE m_X10_comes (d + 2) [.ref 70] (hp c) (some (.int (nI (fre g g1 w n)))) (hp (cN c g1 w)) := by
  obtain ⟨z, hz, h9, h6⟩ := R.Z
  have hn := R.le
  have f6 := R.z6 hz
  have hg1 := G.k hn
  have H72 : (hp c)[72]? = some (100, ar 20 (fun i => nI (sv g1 w1 i))) := hp_is 72 100 h2 (by decide) (by decide)
  have M := fun k => mo_H (c := up1 c 71 (ar 20 (fun i => nI (cpO g1 (sv g w) 0 k i)))) ((up1_ne _ _ (by decide)).trans hz)
  have H71 := fun k => hp_is (c := up1 c 71 (ar 20 (fun i => nI (cpO g1 (sv g w) 0 k i)))) 71 100 (up1_same _ _ _) (by decide) (by decide)
  have H72k := fun k => hp_is (c := up1 c 71 (ar 20 (fun i => nI (cpO g1 (sv g w) 0 k i)))) 72 100 ((up1_ne _ _ (by decide)).trans h2) (by decide) (by decide)
  have eE : up1 c 71 (ar 20 (fun i => nI (cpO g1 (sv g w) 0 n i))) = cN c g1 w := by
    unfold cN
    rw [ar_ext (fun i hi => ?_)]
    by_cases hi2 : i < n
    · rw [cpO_in (Nat.zero_le i) (by omega), Nat.sub_zero, sv_lo (by omega)]
    · rw [cpO_out (by omega)]
      by_cases h10 : i < 10
      · rw [sv_lo h10, sv_lo h10, R.F.1.out (by omega), G.out (by omega)]
      · unfold sv
        rw [if_neg h10, if_neg h10]
  have hb := tsU_le (B := 10) (e := fun v => pc (df (g1 v) (sv g w v))) (fun i => pc_le _) n
  refine e_X10_comes (b_X10_comes_0 ?_)
  refine up_all (n := n) (T := fun k => a_X10_comes_4 (d + 2) 0 0 70 (nI (tsU (fun v => pc (df (g1 v) (sv g w v))) k)) (nI k) (hp c) (rI (nI (fre g g1 w n)) (hp (cN c g1 w)))) (fun k hk ih => ?_) ?_
  · have ih : a_X10_comes_4 (d + 2) 0 0 70 (nI (tsU (fun v => pc (df (g1 v) (sv g w v))) k + pc (df (g1 k) (sv g w k)))) (nI (k + 1)) (hp c) (rI (nI (fre g g1 w n)) (hp (cN c g1 w))) := ih
    refine b_X10_comes_4 (mo_H hz) f6 (fun q => absurd q (nI_ge hk (by omega))) (fun _ => b_X10_comes_12 (x5 := nI (g1 k)) (x9 := nI (sv g w k)) (v13 := nI (pc (df (g1 k) (sv g w k)))) (mo_H hz) rfl H72 (nI_pos (by omega)) (by rw [at20 (by omega), sv_lo (by omega)]) (mo_H hz) rfl R.rowH (nI_pos (by omega)) (at20 (by omega)) (by rw [i_df]; exact r_ones (df_lt (k := 10) (hg1 k))) ?_)
    rw [nI_1, nI_add]; exact ih
  · refine b_X10_comes_4 (mo_H hz) f6 (fun _ => b_X10_comes_39 ?_) (fun q => absurd (nI_le (Nat.le_refl n) (by omega)) q)
    have key := up_all (n := n) (T := fun k => a_X10_comes_41 (d + 2) 0 0 70 (nI (tsU (fun v => pc (df (g1 v) (sv g w v))) n)) (nI k) (hp (up1 c 71 (ar 20 (fun i => nI (cpO g1 (sv g w) 0 k i))))) (rI (nI (fre g g1 w n)) (hp (cN c g1 w)))) (fun k hk ih => ?_) ?_
    · have e0 : up1 c 71 (ar 20 (fun i => nI (cpO g1 (sv g w) 0 0 i))) = c := by rw [cpO_0]; exact up1_id R.row
      have key : a_X10_comes_41 (d + 2) 0 0 70 (nI (tsU (fun v => pc (df (g1 v) (sv g w v))) n)) (nI 0) (hp (up1 c 71 (ar 20 (fun i => nI (cpO g1 (sv g w) 0 0 i))))) (rI (nI (fre g g1 w n)) (hp (cN c g1 w))) := key
      rw [e0] at key; exact key
    · refine b_X10_comes_41 (M k) f6 (fun q => absurd q (nI_ge hk (by omega))) (fun _ => b_X10_comes_49 (x7 := nI (g1 k)) (M k) rfl (M k) rfl (H72k k) (nI_pos (by omega)) (by rw [at20 (by omega), sv_lo (by omega)]) (H71 k) (nI_pos (by omega)) (ln20 (by omega)) ?_)
      have es := cpO_s (f := g1) (o := sv g w) (b := 0) (k := k)
      rw [Nat.zero_add] at es
      rw [cl_nI (by omega), ar_upN, hp_set (by decide) (by decide), up1_up1, es, nI_1]
      exact ih
    · have Mn := M n
      rw [eE] at Mn ⊢
      exact b_X10_comes_41 Mn f6 (fun _ => b_X10_comes_67 (by decide) ⟨by rw [i_half (by omega)]; rfl, rfl⟩) (fun q => absurd (nI_le (Nat.le_refl n) (by omega)) q)
/-- what a refused change leaves -/
theorem QF.X (R : RF c n g w) (X : HF c ch kp Hg Hw Sg Sw a) (Q : QF c c' t) : RF c' n g w ∧ HF c' ch kp Hg Hw Sg Sw a ∧ CF c c' t := ⟨R.q Q, X.q Q, Q.C⟩
def wy (g : Nat → Nat) (n u v : Nat) : Nat := if u = v then 1 else if (g u).testBit v = true then 2 else if ds g n u v = none then 0 else 3
theorem q_linkX (R : RF c n g w) (h : isV n x = false ∨ isV n y = false) : ∃ c', MSE m_X10_link (d + 3) [.ref 70, .int x, .int y] (hp c) (some (.int 0)) (hp c') ∧ QF c c' 1 := by
  obtain ⟨z, h1, h2, h3⟩ := R.Z
  have Q := QF.th (t := 1) R.S h1
  obtain ⟨fs, H⟩ := R.M
  have fin : SW none m_X10_link (d + 3) 0 0 17 [some (.ref 70), some (.int x), some (.int y), none] [.ref 70] (hp c) (rI 0 (hp (cT c z (nI 1)))) := b_X10_link_17 (b_X10_link_22 H (r_fails1 h1) (fun q => absurd q (by decide)) (fun _ => b_X10_link_29 ⟨rfl, rfl⟩))
  refine ⟨_, e_X10_link (b_X10_link_0 H (r_isVertex R) (fun _ => fin) (fun q => b_X10_link_9 H (r_isVertex R) (fun q2 => ?_) (fun _ => fin))), Q⟩
  rcases h with h | h
  · exact absurd (nv0 h) q
  · exact absurd (nv0 h) q2
theorem q_cutX (R : RF c n g w) (h : isV n x = false ∨ isV n y = false) : ∃ c', MSE m_X10_cut (d + 3) [.ref 70, .int x, .int y] (hp c) (some (.int 0)) (hp c') ∧ QF c c' 1 := by
  obtain ⟨z, h1, h2, h3⟩ := R.Z
  have Q := QF.th (t := 1) R.S h1
  obtain ⟨fs, H⟩ := R.M
  have fin : SW none m_X10_cut (d + 3) 0 0 17 [some (.ref 70), some (.int x), some (.int y), none] [.ref 70] (hp c) (rI 0 (hp (cT c z (nI 1)))) := b_X10_cut_17 (b_X10_cut_22 H (r_fails1 h1) (fun q => absurd q (by decide)) (fun _ => b_X10_cut_29 ⟨rfl, rfl⟩))
  refine ⟨_, e_X10_cut (b_X10_cut_0 H (r_isVertex R) (fun _ => fin) (fun q => b_X10_cut_9 H (r_isVertex R) (fun q2 => ?_) (fun _ => fin))), Q⟩
  rcases h with h | h
  · exact absurd (nv0 h) q
  · exact absurd (nv0 h) q2
theorem q_swapX (R : RF c n g w) (h : isV n x = false ∨ isV n y = false) : ∃ c', MSE m_X10_swap (d + 3) [.ref 70, .int x, .int y] (hp c) (some (.int 0)) (hp c') ∧ QF c c' 1 := by
  obtain ⟨z, h1, h2, h3⟩ := R.Z
  have Q := QF.th (t := 1) R.S h1
  obtain ⟨fs, H⟩ := R.M
  have fin : SW none m_X10_swap (d + 3) 0 0 17 [some (.ref 70), some (.int x), some (.int y), none, none] [.ref 70] (hp c) (rI 0 (hp (cT c z (nI 1)))) := b_X10_swap_17 (b_X10_swap_22 H (r_fails1 h1) (fun q => absurd q (by decide)) (fun _ => b_X10_swap_29 ⟨rfl, rfl⟩))
  refine ⟨_, e_X10_swap (b_X10_swap_0 H (r_isVertex R) (fun _ => fin) (fun q => b_X10_swap_9 H (r_isVertex R) (fun q2 => ?_) (fun _ => fin))), Q⟩
  rcases h with h | h
  · exact absurd (nv0 h) q
  · exact absurd (nv0 h) q2
theorem q_regraftX {u : Int32} (R : RF c n g w) (h : isV n x = false ∨ isV n y = false ∨ isV n u = false) : ∃ c', MSE m_X10_regraft (d + 3) [.ref 70, .int x, .int y, .int u] (hp c) (some (.int 0)) (hp c') ∧ QF c c' 1 := by
  obtain ⟨z, h1, h2, h3⟩ := R.Z
  have Q := QF.th (t := 1) R.S h1
  obtain ⟨fs, H⟩ := R.M
  have fin : SW none m_X10_regraft (d + 3) 0 0 25 [some (.ref 70), some (.int x), some (.int y), some (.int u)] [.ref 70] (hp c) (rI 0 (hp (cT c z (nI 1)))) := b_X10_regraft_25 (b_X10_regraft_30 H (r_fails1 h1) (fun q => absurd q (by decide)) (fun _ => b_X10_regraft_37 ⟨rfl, rfl⟩))
  refine ⟨_, e_X10_regraft (b_X10_regraft_0 H (r_isVertex R) (fun _ => fin) (fun q => b_X10_regraft_9 H (r_isVertex R) (fun _ => fin) (fun q2 => b_X10_regraft_17 H (r_isVertex R) (fun q3 => ?_) (fun _ => fin)))), Q⟩
  rcases h with h | h | h
  · exact absurd (nv0 h) q
  · exact absurd (nv0 h) q2
  · exact absurd (nv0 h) q3
theorem q_setWeightX1 (R : RF c n g w) (h : isV n x = false) : ∃ c', MSE m_X10_setWeight (d + 3) [.ref 70, .int x, .int y] (hp c) (some (.int 0)) (hp c') ∧ QF c c' 1 := by
  obtain ⟨z, h1, h2, h3⟩ := R.Z
  have Q := QF.th (t := 1) R.S h1
  obtain ⟨fs, H⟩ := R.M
  exact ⟨_, e_X10_setWeight (b_X10_setWeight_0 H (r_isVertex R) (fun q => absurd (nv0 h) q) (fun q => b_X10_setWeight_11 (b_X10_setWeight_16 (fun _ => b_X10_setWeight_34 (b_X10_setWeight_35 H (r_fails1 h1) (fun q => absurd q (by decide)) (fun _ => b_X10_setWeight_41 ⟨rfl, rfl⟩))) (fun q2 => absurd (nv0 h) q2)))), Q⟩
theorem q_setWeightX2 (R : RF c n g w) (hx : isV n x = true) (h : y < 0 ∨ 99 < y) : ∃ c', MSE m_X10_setWeight (d + 3) [.ref 70, .int x, .int y] (hp c) (some (.int 0)) (hp c') ∧ QF c c' 2 := by
  obtain ⟨z, h1, h2, h3⟩ := R.Z
  have Q := QF.th (t := 2) R.S h1
  obtain ⟨fs, H⟩ := R.M
  exact ⟨_, e_X10_setWeight (b_X10_setWeight_0 H (r_isVertex R) (fun q => b_X10_setWeight_15 (b_X10_setWeight_16 (fun q2 => absurd q2 (nv1 hx)) (fun q2 => b_X10_setWeight_20 (isIn_0 h) (fun q => absurd rfl q) (fun _ => b_X10_setWeight_30 (b_X10_setWeight_35 H (r_fails2 h1) (fun q => absurd q (by decide)) (fun _ => b_X10_setWeight_41 ⟨rfl, rfl⟩)))))) (fun q => absurd q (nv1 hx))), Q⟩
theorem lk_pre (R : RF c n g w) (hz : c 70 = moL z) {u v : Nat} (hu : u < n) (hv : v < n) {P : ab_O → ab_H → Prop} (K : SW none m_X10_link (d + 5) 0 0 74 [some (.ref 70), some (.int (nI u)), some (.int (nI v)), none] [.int (nI (wy g n u v))] (hp (cT c z (nI 0))) P) : MS m_X10_link (d + 5) 0 0 [.ref 70, .int (nI u), .int (nI v)] (hp c) P := by
  have hn := R.le
  have Q := QF.th (t := 0) R.S hz
  have R2 := R.q Q
  obtain ⟨fs, H⟩ := R.M
  obtain ⟨fs2, H2⟩ := R2.M
  have hgu := R.g10 u
  have hmc : mc g n u < 1024 := mr_lt R.g10 (by omega)
  refine e_X10_link (b_X10_link_0 H (r_isVertex (d := d + 3) R) (fun q => absurd q (nv1 (isV_t hu))) (fun _ => b_X10_link_9 H (r_isVertex (d := d + 3) R) (fun _ => b_X10_link_21 (b_X10_link_22 H (r_fails0 hz) (fun _ => b_X10_link_31 (fun q => b_X10_link_40 cT_H rfl R2.rowH (nI_pos (by omega)) (by rw [at20 (by omega), sv_lo (by omega)]) (r_has (by omega) (by omega)) (fun q2 => b_X10_link_57 H2 (r_component (d := d + 2) R2.V R2.K (by omega)) (r_has (by omega) (by omega)) (fun q3 => b_X10_link_73 ?_) (fun q3 => b_X10_link_69 ?_)) (fun q2 => b_X10_link_53 ?_)) (fun q => b_X10_link_36 ?_)) (fun q => absurd rfl q))) (fun q => absurd q (nv1 (isV_t hv)))))
  · have e : wy g n u v = 0 := by
      unfold wy
      rw [if_neg (fun e => q (by rw [e])), if_neg (fun e => by rw [h01.mp q2] at e; cases e), if_pos]
      have h3 := h01.mp q3
      rw [mc_comp R.F.1 hn hu] at h3
      cases e : ds g n u v with
      | none => rfl
      | some k =>
        have := (ds_cn R.F.1 hn hu).mpr ⟨k, e⟩
        rw [(comp_bit R.F.1 hn hu).mpr this] at h3; cases h3
    rw [e] at K; exact K
  · have e : wy g n u v = 3 := by
      unfold wy
      rw [if_neg (fun e => q (by rw [e])), if_neg (fun e => by rw [h01.mp q2] at e; cases e), if_neg]
      have h3 := tb_of q3
      rw [mc_comp R.F.1 hn hu] at h3
      obtain ⟨k, e⟩ := (ds_cn R.F.1 hn hu).mp ((comp_bit R.F.1 hn hu).mp h3)
      rw [e]; exact fun e => by cases e
    rw [e] at K; exact K
  · have e : wy g n u v = 2 := by
      unfold wy
      rw [if_neg (fun e => q (by rw [e])), if_pos (tb_of q2)]
    rw [e] at K; exact K
  · have e : wy g n u v = 1 := by
      unfold wy
      rw [if_pos ((i_eq (by omega) (by omega)).mp q)]
    rw [e] at K; exact K
theorem wy_le {u v : Nat} : wy g n u v ≤ 3 := by
  unfold wy
  split
  · decide
  · split
    · decide
    · split <;> decide
theorem q_link0 (R : RF c n g w) (X : HF c ch kp Hg Hw Sg Sw a) {u v r : Nat} (hu : u < n) (hv : v < n) (hr : wy g n u v = r) (h0 : r ≠ 0) : ∃ c', MSE m_X10_link (d + 5) [.ref 70, .int (nI u), .int (nI v)] (hp c) (some (.int (nI r))) (hp c') ∧ RF c' n g w ∧ HF c' ch kp Hg Hw Sg Sw (up1 a 5 (a 5 + 1)) ∧ CF c c' 0 := by
  obtain ⟨z, hz, h2, h3⟩ := R.Z
  have Q := QF.th (t := 0) R.S hz
  have R2 := R.q Q
  have X2 := X.q Q
  obtain ⟨fs2, H2⟩ := R2.M
  have hw3 := wy_le (g := g) (n := n) (u := u) (v := v)
  exact ⟨_, lk_pre R hz hu hv (b_X10_link_74 (fun q => absurd ((nI_leI (a := wy g n u v) (b := 0) (by omega) (by decide)).mp q) (by omega)) (fun q => b_X10_link_79 H2 (r_counts X2 (i := 5) (by decide)) ⟨by rw [hr], rfl⟩)), R2.up (by decide), X2.cnt, Q.C.k (KF.up (by decide))⟩
theorem q_link (R : RF c n g w) (X : HF c ch kp Hg Hw Sg Sw a) {u v : Nat} (hu : u < n) (hv : v < n) (hr : wy g n u v = 0) (F : FOR (jn g u v) n) : ∃ c', MSE m_X10_link (d + 5) [.ref 70, .int (nI u), .int (nI v)] (hp c) (some (.int 0)) (hp c') ∧ RF c' n (jn g u v) w ∧ HF c' (min (ch + 1) 8) kp (shH Hg g) (shH Hw w) Sg Sw (up1 a 0 (a 0 + 1)) ∧ CF c c' 0 := by
  obtain ⟨z, hz, h2, h3⟩ := R.Z
  have hn := R.le
  have Q := QF.th (t := 0) R.S hz
  have R2 := R.q Q
  have X2 := X.q Q
  obtain ⟨fs2, H2⟩ := R2.M
  obtain ⟨c3, m3, R3, X3, K3⟩ := r_remembers (d := d + 4) R2 X2
  obtain ⟨z3, hz3, -⟩ := R3.Z
  have mj := r_joins (d := d + 4) (u := u) (v := v) R3.rowH (by omega) (by omega)
  rw [hp_set (by decide) (by decide)] at mj
  have R4 : RF (cN c3 (jn g u v) w) n (jn g u v) w := R3.now F R.w99
  have X4 : HF (cN c3 (jn g u v) w) (min (ch + 1) 8) kp (shH Hg g) (shH Hw w) Sg Sw a := X3.up (by decide)
  obtain ⟨fs4, H4⟩ := R4.M
  exact ⟨_, lk_pre R hz hu hv (b_X10_link_74 (fun q => b_X10_link_86 H2 m3 (mo_H hz3) rfl mj H4 (r_counts X4 (i := 0) (by decide)) ⟨rfl, rfl⟩) (fun q => absurd (by rw [hr]; decide) q)), R4.up (by decide), X4.cnt, ((Q.C.k K3).k KF.nowK).k (KF.up (by decide))⟩
end
