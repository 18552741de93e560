section
variable {d n t : Nat} {c c' : Nat → List Value} {g w w' : Nat → Nat} {z : Nat → Int32} {x y : Int32} {h : ab_H}
theorem th0 : (hp c).set 70 (10, (moL z).set 0 (.int 0)) = hp (cT c z (nI 0)) := hp_set (by decide) (by decide)
/-! forest(what) -/
theorem r_edges (R : RF c n g w) : MSE m_X10_edges (d + 2) [.ref 70] (hp c) (some (.int (nI (ed g n)))) (hp c) := by
  obtain ⟨z, hz, h9, h6⟩ := R.Z
  have hn := R.le
  have H := mo_H hz
  have f6 := R.z6 hz
  refine e_X10_edges (b_X10_edges_0 ?_)
  refine up_all (n := n) (T := fun k => a_X10_edges_4 (d + 2) 0 0 70 (nI (tsU (fun v => pc (g v)) k)) (nI k) (hp c) (rI (nI (ed g n)) (hp c))) (fun k hk ih => ?_) ?_
  · have ih : a_X10_edges_4 (d + 2) 0 0 70 (nI (tsU (fun v => pc (g v)) k + pc (g k))) (nI (k + 1)) (hp c) (rI (nI (ed g n)) (hp c)) := ih
    refine b_X10_edges_4 H f6 (fun q => absurd q (nI_ge hk (by omega))) (fun _ => b_X10_edges_12 (x5 := nI (g k)) H rfl R.rowH (nI_pos (by omega)) (by rw [at20 (by omega), sv_lo (by omega)]) (r_ones (R.g10 k)) ?_)
    rw [nI_1, nI_add]; exact ih
  · have hb := tsU_le (B := 10) (e := fun v => pc (g v)) (fun i => pc_le _) n
    refine b_X10_edges_4 H f6 (fun _ => b_X10_edges_30 (by decide) ⟨?_, rfl⟩) (fun q => absurd (nI_le (Nat.le_refl n) (by omega)) q)
    rw [i_half (by omega)]; rfl
theorem q_forest0 (R : RF c n g w) : ∃ c', MSE m_X10_forest (d + 3) [.ref 70, .int 0] (hp c) (some (.int (nI n))) (hp c') ∧ QF c c' 0 := by
  obtain ⟨z, hz, h9, h6⟩ := R.Z
  have Q := QF.th (t := 0) R.S hz
  have f6 : (moL (up1 z 0 (nI 0)))[6]? = some (.int (nI n)) := (R.q Q).z6 (up1_same _ _ _)
  refine ⟨_, e_X10_forest (b_X10_forest_0 (mo_H hz) (by show 0 < 27; decide) (by rw [th0]; exact cT_H) f6 (fun _ => ?_) (fun q => absurd q (by decide)) (fun q => absurd q (by decide)) (fun q => absurd q (by decide)) (fun q => absurd q (by decide)) (fun q => absurd q (by decide)) (fun q => absurd q (by decide)) (fun q => absurd q (by decide)) (fun q => absurd q (by decide)) (fun q => absurd rfl (q 0 (by decide)))), Q⟩
  rw [th0]
  exact b_X10_forest_68 cT_H f6 ⟨rfl, rfl⟩
theorem q_forest1 (R : RF c n g w) : ∃ c', MSE m_X10_forest (d + 3) [.ref 70, .int 1] (hp c) (some (.int (nI (ed g n)))) (hp c') ∧ QF c c' 0 := by
  obtain ⟨z, hz, h9, h6⟩ := R.Z
  have Q := QF.th (t := 0) R.S hz
  have R2 := R.q Q
  have f6 : (moL (up1 z 0 (nI 0)))[6]? = some (.int (nI n)) := R2.z6 (up1_same _ _ _)
  refine ⟨_, e_X10_forest (b_X10_forest_0 (mo_H hz) (by show 0 < 27; decide) (by rw [th0]; exact cT_H) f6 (fun q => absurd q (by decide)) (fun _ => ?_) (fun q => absurd q (by decide)) (fun q => absurd q (by decide)) (fun q => absurd q (by decide)) (fun q => absurd q (by decide)) (fun q => absurd q (by decide)) (fun q => absurd q (by decide)) (fun q => absurd q (by decide)) (fun q => absurd rfl (q 1 (by decide)))), Q⟩
  rw [th0]
  exact b_X10_forest_73 cT_H (r_edges R2) ⟨rfl, rfl⟩
theorem q_forest2 (R : RF c n g w) : ∃ c', MSE m_X10_forest (d + 4) [.ref 70, .int 2] (hp c) (some (.int (nI (n - ed g n)))) (hp c') ∧ QF c c' 0 := by
  obtain ⟨z, hz, h9, h6⟩ := R.Z
  have Q := QF.th (t := 0) R.S hz
  have R2 := R.q Q
  have f6 : (moL (up1 z 0 (nI 0)))[6]? = some (.int (nI n)) := R2.z6 (up1_same _ _ _)
  have m1 := r_componentMany (d := d) R2.V R2.K
  have e : cnU (mR g n) n = n - ed g n := by
    have := ed_roots R.F R.le
    rw [roots_m R.F.1 R.le (Nat.le_refl n)]; omega
  rw [e] at m1
  refine ⟨_, e_X10_forest (b_X10_forest_0 (mo_H hz) (by show 0 < 27; decide) (by rw [th0]; exact cT_H) f6 (fun q => absurd q (by decide)) (fun q => absurd q (by decide)) (fun _ => ?_) (fun q => absurd q (by decide)) (fun q => absurd q (by decide)) (fun q => absurd q (by decide)) (fun q => absurd q (by decide)) (fun q => absurd q (by decide)) (fun q => absurd q (by decide)) (fun q => absurd rfl (q 2 (by decide)))), Q⟩
  rw [th0]
  exact b_X10_forest_78 cT_H m1 ⟨rfl, rfl⟩
theorem i_al (hn : n ≤ 10) : ((1 : Int32) <<< (nI n &&& 31)) - 1 = nI (al n) := by
  rw [i_shl1 (by omega)]
  exact pk_sub (a := 2 ^ n) (b := 1) (Nat.two_pow_pos n)
theorem q_forest3 (R : RF c n g w) : ∃ c', MSE m_X10_forest (d + 4) [.ref 70, .int 3] (hp c) (some (.int (nI (pc (lv g n))))) (hp c') ∧ QF c c' 0 := by
  obtain ⟨z, hz, h9, h6⟩ := R.Z
  have hn := R.le
  have Q := QF.th (t := 0) R.S hz
  have R2 := R.q Q
  have f6 : (moL (up1 z 0 (nI 0)))[6]? = some (.int (nI n)) := R2.z6 (up1_same _ _ _)
  have m1 := r_leavesIn (d := d + 1) R2.V (s := al n) (al_lt hn)
  have e : cnU (lvB g (al n)) n = pc (lv g n) := (pc_stU hn).symm
  rw [e] at m1
  refine ⟨_, e_X10_forest (b_X10_forest_0 (mo_H hz) (by show 0 < 27; decide) (by rw [th0]; exact cT_H) f6 (fun q => absurd q (by decide)) (fun q => absurd q (by decide)) (fun q => absurd q (by decide)) (fun _ => ?_) (fun q => absurd q (by decide)) (fun q => absurd q (by decide)) (fun q => absurd q (by decide)) (fun q => absurd q (by decide)) (fun q => absurd q (by decide)) (fun q => absurd rfl (q 3 (by decide)))), Q⟩
  rw [th0, i_al hn]
  exact b_X10_forest_83 cT_H m1 ⟨rfl, rfl⟩
theorem q_forest4 (R : RF c n g w) : ∃ c', MSE m_X10_forest (d + 4) [.ref 70, .int 4] (hp c) (some (.int (nI (pc (stU (fun v => (al n).testBit v && decide (pc (g v) = 0)) n))))) (hp c') ∧ QF c c' 0 := by
  obtain ⟨z, hz, h9, h6⟩ := R.Z
  have hn := R.le
  have Q := QF.th (t := 0) R.S hz
  have R2 := R.q Q
  have f6 : (moL (up1 z 0 (nI 0)))[6]? = some (.int (nI n)) := R2.z6 (up1_same _ _ _)
  have e : pc (stU (fun v => (al n).testBit v && decide (pc (g v) = 0)) n) = cnU (fun v => decide (g v = 0)) n := by
    rw [pc_stU hn]
    refine cnU_ext n (fun i hi => ?_)
    rw [al_bit, decide_eq_true hi, Bool.true_and]
    refine Bool.eq_iff_iff.mpr ?_
    rw [decide_eq_true_eq, decide_eq_true_eq]
    exact ⟨fun h => pc_zero (R.g10 i) h, fun h => by rw [h]; exact pc_0⟩
  rw [e]
  refine ⟨_, e_X10_forest (b_X10_forest_0 (mo_H hz) (by show 0 < 27; decide) (by rw [th0]; exact cT_H) f6 (fun q => absurd q (by decide)) (fun q => absurd q (by decide)) (fun q => absurd q (by decide)) (fun q => absurd q (by decide)) (fun _ => b_X10_forest_89 ?_) (fun q => absurd q (by decide)) (fun q => absurd q (by decide)) (fun q => absurd q (by decide)) (fun q => absurd q (by decide)) (fun q => absurd rfl (q 4 (by decide)))), Q⟩
  rw [th0]
  refine up_all (n := n) (T := fun k => SW none m_X10_forest (d + 4) 0 0 92 [some (.ref 70), none, none, some (.int (nI (cnU (fun v => decide (g v = 0)) k))), some (.int (nI k))] [] (hp (cT c z (nI 0))) (rI (nI (cnU (fun v => decide (g v = 0)) n)) (hp (cT c z (nI 0))))) (fun k hk ih => ?_) ?_
  · have ih : SW none m_X10_forest (d + 4) 0 0 92 [some (.ref 70), none, none, some (.int (nI (cnU (fun v => decide (g v = 0)) (k + 1)))), some (.int (nI (k + 1)))] [] (hp (cT c z (nI 0))) (rI (nI (cnU (fun v => decide (g v = 0)) n)) (hp (cT c z (nI 0)))) := ih
    rw [cnU_s] at ih
    have hgk := R.g10 k
    refine b_X10_forest_92 cT_H f6 (fun q => absurd q (nI_ge hk (by omega))) (fun _ => b_X10_forest_101 (x5 := nI (g k)) cT_H rfl R2.rowH (nI_pos (by omega)) (by rw [at20 (by omega), sv_lo (by omega)]) (fun q => b_X10_forest_116 (b_X10_forest_117 ?_)) (fun q => b_X10_forest_112 (b_X10_forest_117 ?_)))
    · rw [if_neg (fun e => q (by rw [of_decide_eq_true e]; rfl))] at ih
      rw [nI_1, Int32.add_zero]; exact ih
    · rw [if_pos (decide_eq_true ((i_eq0 (by omega)).mp q))] at ih
      rw [nI_1, nI_1]; exact ih
  · exact b_X10_forest_92 cT_H f6 (fun _ => b_X10_forest_125 ⟨rfl, rfl⟩) (fun q => absurd (nI_le (Nat.le_refl n) (by omega)) q)
theorem q_forest5 (R : RF c n g w) : ∃ c', MSE m_X10_forest (d + 4) [.ref 70, .int 5] (hp c) (some (.int (nI (smU (al n) w n)))) (hp c') ∧ QF c c' 0 := by
  obtain ⟨z, hz, h9, h6⟩ := R.Z
  have hn := R.le
  have Q := QF.th (t := 0) R.S hz
  have R2 := R.q Q
  have f6 : (moL (up1 z 0 (nI 0)))[6]? = some (.int (nI n)) := R2.z6 (up1_same _ _ _)
  have m1 := r_weightOf (d := d + 2) R2.V R2.Y (s := al n) (al_lt hn) (b := true)
  have e : smU (al n) (w1 w true) n = smU (al n) w n := smU_ext n (fun i _ _ => if_pos rfl)
  rw [e] at m1
  refine ⟨_, e_X10_forest (b_X10_forest_0 (mo_H hz) (by show 0 < 27; decide) (by rw [th0]; exact cT_H) f6 (fun q => absurd q (by decide)) (fun q => absurd q (by decide)) (fun q => absurd q (by decide)) (fun q => absurd q (by decide)) (fun q => absurd q (by decide)) (fun _ => ?_) (fun q => absurd q (by decide)) (fun q => absurd q (by decide)) (fun q => absurd q (by decide)) (fun q => absurd rfl (q 5 (by decide)))), Q⟩
  rw [th0, i_al hn]
  exact b_X10_forest_127 cT_H m1 ⟨rfl, rfl⟩
theorem q_forest6 (R : RF c n g w) : ∃ c', MSE m_X10_forest (d + 17) [.ref 70, .int 6] (hp c) (some (.int (nI (cnU (nwB (Cw g w n)) (cnU (isR g n) n))))) (hp c') ∧ QF c c' 0 := by
  obtain ⟨z, hz, h9, h6⟩ := R.Z
  have hn := R.le
  have Q := QF.th (t := 0) R.S hz
  have R2 := R.q Q
  have f6 : (moL (up1 z 0 (nI 0)))[6]? = some (.int (nI n)) := R2.z6 (up1_same _ _ _)
  obtain ⟨K0, hK0⟩ := R2.kid
  obtain ⟨m, hm⟩ : ∃ m, m = cnU (isR g n) n := ⟨_, rfl⟩
  have hle : m ≤ n := by rw [hm]; exact cnU_le n
  rw [← hm]
  have mM : ∀ K, MSE m_X10_componentMany (d + 16) [.ref 70] (hp (cK (cT c z (nI 0)) K)) (some (.int (nI m))) (hp (cK (cT c z (nI 0)) K)) := fun K => by
    have := r_componentMany (d := d + 13) R2.V.k R2.K (c := cK (cT c z (nI 0)) K)
    rw [roots_m R.F.1 hn (Nat.le_refl n), ← hm] at this
    exact this
  have loop : ∀ j k K, k + j = m → ∃ K', SW none m_X10_forest (d + 17) 0 0 137 [some (.ref 70), none, none, some (.int (nI (cnU (nwB (Cw g w n)) k))), some (.int (nI k))] [] (hp (cK (cT c z (nI 0)) K)) (rI (nI (cnU (nwB (Cw g w n)) m)) (hp (cK (cT c z (nI 0)) K'))) := by
    intro j
    induction j with
    | zero =>
      intro k K hk
      have : k = m := by omega
      subst this
      obtain ⟨z1, H⟩ := (R2.V.k (K := K)).M
      exact ⟨K, b_X10_forest_137 H (mM K) (fun _ => b_X10_forest_169 ⟨rfl, rfl⟩) (fun q => absurd (nI_le (Nat.le_refl k) (by omega)) q)⟩
    | succ j ih =>
      intro k K hk
      obtain ⟨z1, H⟩ := (R2.V.k (K := K)).M
      obtain ⟨K1, m1⟩ := r_isNew (d := d) R2.V R2.K R2.Y R2.O (k := k) (by omega) (K := K)
      obtain ⟨K2, m2⟩ := ih (k + 1) K1 (by omega)
      rw [cnU_s] at m2
      refine ⟨K2, b_X10_forest_137 H (mM K) (fun q => absurd q (nI_ge (show k < m by omega) (by omega))) (fun _ => b_X10_forest_146 H m1 (fun q => b_X10_forest_160 (b_X10_forest_161 ?_)) (fun q => b_X10_forest_156 (b_X10_forest_161 ?_)))⟩
      · rw [if_neg (by rw [h01.mp q]; decide)] at m2
        rw [nI_1, Int32.add_zero]; exact m2
      · rw [if_pos (tb_of q)] at m2
        rw [nI_1, nI_1]; exact m2
  obtain ⟨K', m2⟩ := loop m 0 K0 (by omega)
  rw [hK0] at m2
  refine ⟨cK (cT c z (nI 0)) K', e_X10_forest (b_X10_forest_0 (mo_H hz) (by show 0 < 27; decide) (by rw [th0]; exact cT_H) f6 (fun q => absurd q (by decide)) (fun q => absurd q (by decide)) (fun q => absurd q (by decide)) (fun q => absurd q (by decide)) (fun q => absurd q (by decide)) (fun q => absurd q (by decide)) (fun _ => b_X10_forest_134 ?_) (fun q => absurd q (by decide)) (fun q => absurd q (by decide)) (fun q => absurd rfl (q 6 (by decide)))), Q.k (K := K')⟩
  rw [th0]
  exact m2
theorem q_forest7 (R : RF c n g w) (hz : c 70 = moL z) : ∃ c', MSE m_X10_forest (d + 3) [.ref 70, .int 7] (hp c) (some (.int (z 8))) (hp c') ∧ QF c c' 0 := by
  have Q := QF.th (t := 0) R.S hz
  have f6 : (moL (up1 z 0 (nI 0)))[6]? = some (.int (nI n)) := (R.q Q).z6 (up1_same _ _ _)
  refine ⟨_, e_X10_forest (b_X10_forest_0 (mo_H hz) (by show 0 < 27; decide) (by rw [th0]; exact cT_H) f6 (fun q => absurd q (by decide)) (fun q => absurd q (by decide)) (fun q => absurd q (by decide)) (fun q => absurd q (by decide)) (fun q => absurd q (by decide)) (fun q => absurd q (by decide)) (fun q => absurd q (by decide)) (fun _ => ?_) (fun q => absurd q (by decide)) (fun q => absurd rfl (q 7 (by decide)))), Q⟩
  rw [th0]
  exact b_X10_forest_171 cT_H rfl ⟨rfl, rfl⟩
theorem q_forest8 (R : RF c n g w) (hz : c 70 = moL z) : ∃ c', MSE m_X10_forest (d + 3) [.ref 70, .int 8] (hp c) (some (.int (z 7))) (hp c') ∧ QF c c' 0 := by
  have Q := QF.th (t := 0) R.S hz
  have f6 : (moL (up1 z 0 (nI 0)))[6]? = some (.int (nI n)) := (R.q Q).z6 (up1_same _ _ _)
  refine ⟨_, e_X10_forest (b_X10_forest_0 (mo_H hz) (by show 0 < 27; decide) (by rw [th0]; exact cT_H) f6 (fun q => absurd q (by decide)) (fun q => absurd q (by decide)) (fun q => absurd q (by decide)) (fun q => absurd q (by decide)) (fun q => absurd q (by decide)) (fun q => absurd q (by decide)) (fun q => absurd q (by decide)) (fun q => absurd q (by decide)) (fun _ => ?_) (fun q => absurd rfl (q 8 (by decide)))), Q⟩
  rw [th0]
  exact b_X10_forest_176 cT_H rfl ⟨rfl, rfl⟩
theorem q_forest9 (R : RF c n g w) (hx : ∀ i : Nat, i < 9 → ¬ x = Int32.ofNat i) : ∃ c', MSE m_X10_forest (d + 3) [.ref 70, .int x] (hp c) (some (.int (-1))) (hp c') ∧ QF c c' 0 := by
  obtain ⟨z, hz, h9, h6⟩ := R.Z
  have Q := QF.th (t := 0) R.S hz
  have f6 : (moL (up1 z 0 (nI 0)))[6]? = some (.int (nI n)) := (R.q Q).z6 (up1_same _ _ _)
  refine ⟨_, e_X10_forest (b_X10_forest_0 (mo_H hz) (by show 0 < 27; decide) (by rw [th0]; exact cT_H) f6 (fun q => absurd q (hx 0 (by decide))) (fun q => absurd q (hx 1 (by decide))) (fun q => absurd q (hx 2 (by decide))) (fun q => absurd q (hx 3 (by decide))) (fun q => absurd q (hx 4 (by decide))) (fun q => absurd q (hx 5 (by decide))) (fun q => absurd q (hx 6 (by decide))) (fun q => absurd q (hx 7 (by decide))) (fun q => absurd q (hx 8 (by decide))) (fun _ => ?_)), Q⟩
  rw [th0]
  exact b_X10_forest_181 ⟨rfl, rfl⟩
/-! codes -/
theorem r_isTree (R : RF c n g w) : MSE m_X10_isTree (d + 3) [.ref 70] (hp c) (some (.int (nI (if decide (comp g n 0 = al n) = true then 1 else 0)))) (hp c) := by
  obtain ⟨z, hz, h9, h6⟩ := R.Z
  have hn := R.le
  have m1 := r_component (d := d) R.V R.K (show 0 < 10 by decide)
  rw [mc_comp R.F.1 hn (show 0 < n from R.one)] at m1
  have hcm : comp g n 0 < 1024 := rc_lt R.g10 (by decide)
  have hal := al_lt hn
  have e := i_al hn
  refine e_X10_isTree (b_X10_isTree_0 (mo_H hz) m1 (mo_H hz) (R.z6 hz) (fun q => b_X10_isTree_20 (b_X10_isTree_21 (by decide) ⟨?_, rfl⟩)) (fun q => b_X10_isTree_16 (b_X10_isTree_21 (by decide) ⟨?_, rfl⟩)))
  · rw [e] at q
    rw [decide_eq_false (fun q' => q (by rw [q']))]; rfl
  · rw [e] at q
    rw [decide_eq_true ((i_eq (by omega) (by omega)).mp q)]; rfl
theorem r_codeMany (hn : n ≤ 10) : MSE m_X10_codeMany d [.int (nI n)] h (some (.int (nI (n - 2)))) h := by
  refine e_X10_codeMany (b_X10_codeMany_0 (fun q => b_X10_codeMany_9 (b_X10_codeMany_12 ⟨?_, rfl⟩)) (fun q => b_X10_codeMany_5 (b_X10_codeMany_12 ⟨?_, rfl⟩)))
  · have := (nI_leI (a := 3) (b := n) (by decide) (by omega)).mp q
    rw [show nI n - 2 = nI (n - 2) from pk_sub (a := n) (b := 2) (by omega)]
  · have : n < 3 := by
      rcases Nat.lt_or_ge n 3 with h | h
      · exact h
      · exact absurd (nI_le (a := 3) h (by omega)) q
    rw [show n - 2 = 0 by omega]; rfl
/-- the other row and the code -/
def cXC (c : Nat → List Value) (g1 w q : Nat → Nat) : Nat → List Value := up1 (cX c g1 w) 78 (ar 10 (fun i => nI (q i)))
theorem cXC_M {g1 q : Nat → Nat} (hz : c 70 = moL z) : (hp (cXC c g1 w q))[70]? = some (10, moL z) := mo_H ((up1_ne _ _ (by decide)).trans ((up1_ne _ _ (by decide)).trans hz))
theorem cXC_72 {g1 q : Nat → Nat} : (hp (cXC c g1 w q))[72]? = some (100, ar 20 (fun i => nI (sv g1 w i))) := hp_is 72 100 ((up1_ne _ _ (by decide)).trans (up1_same _ _ _)) (by decide) (by decide)
theorem cXC_78 {g1 q : Nat → Nat} : (hp (cXC c g1 w q))[78]? = some (100, ar 10 (fun i => nI (q i))) := hp_is 78 100 (up1_same _ _ _) (by decide) (by decide)
theorem cXC_s72 {g1 g2 q : Nat → Nat} : (hp (cXC c g1 w q)).set 72 (100, ar 20 (fun i => nI (sv g2 w i))) = hp (cXC c g2 w q) := by
  unfold cXC cX
  rw [hp_set (by decide) (by decide), up1_cm (i := 78) (j := 72) (by decide), up1_up1]
theorem cXC_s78 {g1 q q2 : Nat → Nat} : (hp (cXC c g1 w q)).set 78 (100, ar 10 (fun i => nI (q2 i))) = hp (cXC c g1 w q2) := by
  unfold cXC
  rw [hp_set (by decide) (by decide), up1_up1]
theorem at10 {f : Nat → Int32} {i : Nat} (hi : i < 10) : (ar 10 f)[(nI i).toNatClampNeg]? = some (.int (f i)) := by rw [cl_nI (by omega)]; exact ar_at _ hi
theorem ln10 {f : Nat → Int32} {i : Nat} (hi : i < 10) : (nI i).toNatClampNeg < (ar 10 f).length := by rw [cl_nI (by omega), ar_len]; exact hi
theorem rg_al (G : GR g n) : rg g (al n) = g := funext fun x => set_ext fun y => bit_eq (by
  rw [rg_bit, al_bit, al_bit, decide_eq_true_eq, decide_eq_true_eq]
  exact ⟨fun h => h.1, fun h => ⟨h, G.lt' h, G.lt h⟩⟩)
theorem r_laysCode (R : RF c n g w) (T : TR g n) {q : Nat → Nat} (hq : c 78 = ar 10 (fun i => nI (q i))) : ∃ g1, MSE m_X10_laysCode (d + 2) [.ref 70] (hp c) none (hp (cXC c g1 w (tkQ g n q (n - 2)))) := by
  obtain ⟨z, hz, h9, h6⟩ := R.Z
  have hn := R.le
  have F := R.F
  have f6 := R.z6 hz
  have ok := tk_ok F hn T
  refine ⟨rg g (tkL g n (n - 2)), e_X10_laysCode (b_X10_laysCode_0 (mo_H hz) (r_layOther hz R.row R.S.1) ?_)⟩
  have e0 : cX c g w = cXC c (rg g (tkL g n 0)) w (tkQ g n q 0) := by
    have e1 : rg g (tkL g n 0) = g := rg_al F.1
    rw [e1]
    exact (up1_id ((up1_ne _ _ (by decide)).trans hq)).symm
  rw [e0]
  refine up_all (n := n - 2) (T := fun k => a_X10_laysCode_6 (d + 2) 0 0 70 (nI k) (hp (cXC c (rg g (tkL g n k)) w (tkQ g n q k))) (rV (hp (cXC c (rg g (tkL g n (n - 2))) w (tkQ g n q (n - 2)))))) (fun k hk ih => ?_) ?_
  · obtain ⟨h1, h2, h3, h4⟩ := tk_inv F hn T k (by omega)
    obtain ⟨v, u, a1, a2, a3, a4⟩ := h4 hk
    obtain ⟨p1, p2⟩ := rg_pt F hn a3 a4 a2
    have hv : v < n := bit_lt h1 a3
    have hu10 := low_lt a2
    have hrv : rg g (tkL g n k) v = g v &&& tkL g n k := if_pos a3
    have FL := F.rgF (L := tkL g n k)
    have hlt := FL.1.k hn
    have eL : tkL g n (k + 1) = df (tkL g n k) (2 ^ v) := by
      show df (tkL g n k) (2 ^ (lf g n (tkL g n k)).getD 0) = _
      rw [a1]; rfl
    have eN : tkN g n k = u := by
      unfold tkN
      rw [a1]
      show (low (g v &&& tkL g n k)).getD 0 = u
      rw [a2]; rfl
    have eQ : tkQ g n q (k + 1) = up1 (tkQ g n q k) k u := by
      show up1 (tkQ g n q k) k (tkN g n k) = _
      rw [eN]
    have ih : a_X10_laysCode_6 (d + 2) 0 0 70 (nI (k + 1)) (hp (cXC c (rg g (tkL g n (k + 1))) w (tkQ g n q (k + 1)))) (rV (hp (cXC c (rg g (tkL g n (n - 2))) w (tkQ g n q (n - 2))))) := ih
    rw [eL, eQ, ← p1] at ih
    obtain ⟨gk, hgk⟩ : ∃ gk, gk = rg g (tkL g n k) := ⟨_, rfl⟩
    rw [← hgk] at ih hrv hlt ⊢
    obtain ⟨qk, hqk⟩ : ∃ qk, qk = tkQ g n q k := ⟨_, rfl⟩
    rw [← hqk] at ih ⊢
    have row : ∀ i, i < n → (ar 20 (fun j => nI (sv gk w j)))[(nI i).toNatClampNeg]? = some (.int (nI (gk i))) := fun i hi => by rw [at20 (by omega), sv_lo (by omega)]
    -- before the leaf no vertex has one neighbor left
    have hno : ∀ i, i < v → ¬ pc (gk i) = 1 := fun i hi e => by
      have h := List.find?_range_eq_some.mp a1
      have h2 := h.2.2 i hi
      rw [hgk] at e
      unfold rg at e
      by_cases hb : (tkL g n k).testBit i = true
      · rw [if_pos hb] at e
        rw [hb, decide_eq_true e] at h2; cases h2
      · rw [if_neg hb, pc_0] at e; cases e
    have hpv : pc (gk v) = 1 := by rw [hrv]; exact a4
    refine b_X10_laysCode_6 (cXC_M hz) f6 (r_codeMany hn) (fun q => absurd q (nI_ge hk (by omega))) (fun _ => b_X10_laysCode_17 ?_)
    have loop : ∀ j i, i + j = v → a_X10_laysCode_19 (d + 2) 0 0 70 (nI k) (nI i) (hp (cXC c gk w qk)) (rV (hp (cXC c (rg g (tkL g n (n - 2))) w (tkQ g n q (n - 2))))) := by
      intro j
      induction j with
      | zero =>
        intro i hi
        have : i = v := by omega
        subst this
        have e1 : (hp (cXC c gk w qk)).set 78 (100, (ar 10 (fun i => nI (qk i))).set (nI k).toNatClampNeg (.int (nI u))) = hp (cXC c gk w (up1 qk k u)) := by
          rw [cl_nI (by omega), ar_upN, cXC_s78]
        have ml := r_lowest (d := d) (h := hp (cXC c gk w qk)) (hlt i)
        rw [lz_some (show low (gk i) = some u by rw [hrv]; exact a2)] at ml
        have mp := r_parts (d := d + 1) (h := hp (cXC c gk w (up1 qk k u))) (a := 72) (u := i) (v := u) cXC_72 (by omega) hu10
        rw [cXC_s72] at mp
        refine b_X10_laysCode_19 (cXC_M hz) rfl cXC_72 (nI_pos (by omega)) (row i hv) (r_ones (hlt i)) (fun _ => b_X10_laysCode_38 (x16 := nI u) (cXC_M hz) rfl (cXC_M hz) rfl cXC_72 (nI_pos (by omega)) (row i hv) ml cXC_78 (nI_pos (by omega)) (ln10 (by omega)) (by rw [e1]; exact cXC_M hz) rfl (by rw [e1]; exact cXC_M hz) rfl (by rw [e1]; exact cXC_78) (nI_pos (by omega)) (by rw [at10 (by omega), up1_same]) (by rw [e1]; exact mp) ?_) (fun q => absurd (by rw [hpv]; rfl) q)
        rw [nI_1]; exact ih
      | succ j ih2 =>
        intro i hi
        have hpl := pc_le (gk i)
        refine b_X10_laysCode_19 (cXC_M hz) rfl cXC_72 (nI_pos (by omega)) (row i (by omega)) (r_ones (hlt i)) (fun q => absurd ((i_eq (b := 1) (by omega) (by decide)).mp q) (hno i (by omega))) (fun _ => b_X10_laysCode_32 ?_)
        rw [nI_1]; exact ih2 (i + 1) (by omega)
    exact loop v 0 (by omega)
  · exact b_X10_laysCode_6 (cXC_M hz) f6 (r_codeMany hn) (fun _ => b_X10_laysCode_73 ⟨rfl, rfl⟩) (fun q => absurd (nI_le (Nat.le_refl _) (by omega)) q)
theorem QF.xc (Q : QF c c' t) {g1 q : Nat → Nat} : QF c (cXC c' g1 w q) t := (Q.oth (g := g1) (w := w)).up (by decide) (SC.r78 (Q.oth (g := g1) (w := w)).2.1)
theorem q_code (R : RF c n g w) (T : TR g n) {i : Nat} (hi : i < n - 2) : ∃ c', MSE m_X10_code (d + 4) [.ref 70, .int (nI i)] (hp c) (some (.int (nI (tkN g n i)))) (hp c') ∧ QF c c' 0 := by
  obtain ⟨z, hz, h9, h6⟩ := R.Z
  have hn := R.le
  have Q := QF.th (t := 0) R.S hz
  have R2 := R.q Q
  obtain ⟨q, hq⟩ := R2.S.2.2.1
  obtain ⟨g1, m1⟩ := r_laysCode (d := d + 1) R2 T hq
  obtain ⟨fs2, H2⟩ := R2.M
  have ht : decide (comp g n 0 = al n) = true := decide_eq_true ((tr_al R.F.1 hn R.one).mpr T)
  have mi := r_isInV (d := d + 3) (c := c) (x := nI i) (m := n - 2) (by omega)
  refine ⟨_, e_X10_code (b_X10_code_0 (mo_H hz) (r_isTree R) (fun _ => b_X10_code_14 (b_X10_code_15 (fun q => absurd q (nv1 ht)) (fun _ => b_X10_code_19 (mo_H hz) (R.z6 hz) (r_codeMany hn) mi (fun _ => b_X10_code_40 (b_X10_code_41 (mo_H hz) (r_fails0 hz) (fun _ => b_X10_code_49 H2 m1 (cXC_M (up1_same _ _ _)) rfl cXC_78 (nI_pos (by omega)) (at10 (by omega)) ⟨?_, rfl⟩) (fun q => absurd rfl q))) (fun q => absurd q (nv1 (isV_t hi)))))) (fun q => absurd q (nv1 ht))), Q.xc⟩
  rw [tkQ_at _ _ hi]
theorem q_codeX1 (R : RF c n g w) (T : ¬ TR g n) : ∃ c', MSE m_X10_code (d + 4) [.ref 70, .int x] (hp c) (some (.int 0)) (hp c') ∧ QF c c' 1 := by
  obtain ⟨z, hz, h9, h6⟩ := R.Z
  have ht : decide (comp g n 0 = al n) = false := decide_eq_false (fun e => T ((tr_al R.F.1 R.le R.one).mp e))
  exact ⟨_, e_X10_code (b_X10_code_0 (mo_H hz) (r_isTree R) (fun q => absurd (nv0 ht) q) (fun _ => b_X10_code_10 (b_X10_code_15 (fun _ => b_X10_code_40 (b_X10_code_41 (mo_H hz) (r_fails1 hz) (fun q => absurd q (by decide)) (fun _ => b_X10_code_47 ⟨rfl, rfl⟩))) (fun q => absurd (nv0 ht) q)))), QF.th R.S hz⟩
theorem q_codeX2 (R : RF c n g w) (T : TR g n) (hx : ∀ i, i < n - 2 → x ≠ nI i) : ∃ c', MSE m_X10_code (d + 4) [.ref 70, .int x] (hp c) (some (.int 0)) (hp c') ∧ QF c c' 2 := by
  obtain ⟨z, hz, h9, h6⟩ := R.Z
  have hn := R.le
  have ht : decide (comp g n 0 = al n) = true := decide_eq_true ((tr_al R.F.1 hn R.one).mpr T)
  have hv : isV (n - 2) x = false := decide_eq_false (fun ⟨i, h1, h2⟩ => hx i h1 h2)
  exact ⟨_, e_X10_code (b_X10_code_0 (mo_H hz) (r_isTree R) (fun _ => b_X10_code_14 (b_X10_code_15 (fun q => absurd q (nv1 ht)) (fun _ => b_X10_code_19 (mo_H hz) (R.z6 hz) (r_codeMany hn) (r_isInV (m := n - 2) (by omega)) (fun q => absurd (nv0 hv) q) (fun _ => b_X10_code_36 (b_X10_code_41 (mo_H hz) (r_fails2 hz) (fun q => absurd q (by decide)) (fun _ => b_X10_code_47 ⟨rfl, rfl⟩)))))) (fun q => absurd q (nv1 ht))), QF.th R.S hz⟩
theorem r_rankNow (R : RF c n g w) (T : TR g n) {q : Nat → Nat} (hq : c 78 = ar 10 (fun i => nI (q i))) : ∃ g1, MSE m_X10_rankNow (d + 3) [.ref 70] (hp c) (some (.int (nI (rk n (tkN g n) (n - 2))))) (hp (cXC c g1 w (tkQ g n q (n - 2)))) := by
  obtain ⟨z, hz, h9, h6⟩ := R.Z
  have hn := R.le
  obtain ⟨g1, m1⟩ := r_laysCode (d := d) R T hq
  refine ⟨g1, e_X10_rankNow (b_X10_rankNow_0 (mo_H hz) m1 ?_)⟩
  refine up_all (n := n - 2) (T := fun k => a_X10_rankNow_8 (d + 3) 0 0 70 (nI (rk n (tkN g n) k)) (nI k) (hp (cXC c g1 w (tkQ g n q (n - 2)))) (rI (nI (rk n (tkN g n) (n - 2))) (hp (cXC c g1 w (tkQ g n q (n - 2)))))) (fun k hk ih => ?_) ?_
  · have ih : a_X10_rankNow_8 (d + 3) 0 0 70 (nI (rk n (tkN g n) k * n + tkN g n k)) (nI (k + 1)) (hp (cXC c g1 w (tkQ g n q (n - 2)))) (rI (nI (rk n (tkN g n) (n - 2))) (hp (cXC c g1 w (tkQ g n q (n - 2))))) := ih
    refine b_X10_rankNow_8 (cXC_M hz) (R.z6 hz) (r_codeMany hn) (fun q => absurd q (nI_ge hk (by omega))) (fun _ => b_X10_rankNow_19 (x8 := nI (tkN g n k)) (cXC_M hz) (R.z6 hz) (cXC_M hz) rfl cXC_78 (nI_pos (by omega)) (by rw [at10 (by omega), tkQ_at _ _ hk]) ?_)
    rw [nI_1, pk_mul, nI_add, Nat.mul_comm]; exact ih
  · exact b_X10_rankNow_8 (cXC_M hz) (R.z6 hz) (r_codeMany hn) (fun _ => b_X10_rankNow_39 ⟨rfl, rfl⟩) (fun q => absurd (nI_le (Nat.le_refl _) (by omega)) q)
theorem q_rank (R : RF c n g w) (T : TR g n) : ∃ c', MSE m_X10_rank (d + 4) [.ref 70] (hp c) (some (.int (nI (rk n (tkN g n) (n - 2))))) (hp c') ∧ QF c c' 0 := by
  obtain ⟨z, hz, h9, h6⟩ := R.Z
  have hn := R.le
  have Q := QF.th (t := 0) R.S hz
  have R2 := R.q Q
  obtain ⟨q, hq⟩ := R2.S.2.2.1
  obtain ⟨g1, m1⟩ := r_rankNow (d := d) R2 T hq
  obtain ⟨fs2, H2⟩ := R2.M
  have ht : decide (comp g n 0 = al n) = true := decide_eq_true ((tr_al R.F.1 hn R.one).mpr T)
  exact ⟨_, e_X10_rank (b_X10_rank_0 (mo_H hz) (r_isTree R) (fun _ => b_X10_rank_12 (b_X10_rank_13 (mo_H hz) (r_fails0 hz) (fun _ => b_X10_rank_24 H2 m1 (b_X10_rank_28 ⟨rfl, rfl⟩)) (fun q => absurd rfl q))) (fun q => absurd q (nv1 ht))), Q.xc⟩
theorem q_rankX (R : RF c n g w) (T : ¬ TR g n) : ∃ c', MSE m_X10_rank (d + 4) [.ref 70] (hp c) (some (.int 0)) (hp c') ∧ QF c c' 1 := by
  obtain ⟨z, hz, h9, h6⟩ := R.Z
  have ht : decide (comp g n 0 = al n) = false := decide_eq_false (fun e => T ((tr_al R.F.1 R.le R.one).mp e))
  exact ⟨_, e_X10_rank (b_X10_rank_0 (mo_H hz) (r_isTree R) (fun q => absurd (nv0 ht) q) (fun _ => b_X10_rank_8 (b_X10_rank_13 (mo_H hz) (r_fails1 hz) (fun q => absurd q (by decide)) (fun _ => b_X10_rank_20 (b_X10_rank_28 ⟨rfl, rfl⟩))))), QF.th R.S hz⟩
theorem r_factorial {k : Nat} (hk : k < 100) : MSE m_X10_factorial d [.int (nI k)] h (some (.long (lN (fac k)))) h := by
  refine e_X10_factorial (b_X10_factorial_0 ?_)
  by_cases h2 : k < 2
  · refine b_X10_factorial_4 (fun _ => b_X10_factorial_20 ⟨?_, rfl⟩) (fun q => absurd (nI_lt (a := k) (b := 2) h2 (by decide)) q)
    rcases (show k = 0 ∨ k = 1 by omega) with rfl | rfl <;> rfl
  · have key := up_from (a := 2) (n := k + 1) (T := fun i => SW none m_X10_factorial d 0 0 4 [some (.int (nI k)), some (.long (lN (fac (i - 1)))), none, some (.int (nI i))] [] h (fun o h' => o = .inl (some (.long (lN (fac k)))) ∧ h' = h)) (by omega) (fun i h1 hi ih => ?_) ?_
    · exact key
    · have ih : SW none m_X10_factorial d 0 0 4 [some (.int (nI k)), some (.long (lN (fac i))), none, some (.int (nI (i + 1)))] [] h (fun o h' => o = .inl (some (.long (lN (fac k)))) ∧ h' = h) := ih
      refine b_X10_factorial_4 (fun q => absurd q (nI_nlt (show i ≤ k by omega) (by omega))) (fun _ => b_X10_factorial_9 ?_)
      rw [nI_1, nI_l (by omega), lN_mul]
      have e : fac (i - 1) * i = fac i := by
        obtain ⟨j, rfl⟩ : ∃ j, i = j + 1 := ⟨i - 1, by omega⟩
        rfl
      rw [e]; exact ih
    · exact b_X10_factorial_4 (fun _ => b_X10_factorial_20 ⟨rfl, rfl⟩) (fun q => absurd (nI_lt (show k < k + 1 by omega) (by omega)) q)
theorem tr_deg (G : GR g n) (T : TR g n) (h2 : 2 ≤ n) {v : Nat} (hv : v < n) (hn : n ≤ 10) : 1 ≤ pc (g v) := by
  have : ∃ u, u < n ∧ v ≠ u := by
    by_cases e : v = 0
    · exact ⟨1, by omega, by omega⟩
    · exact ⟨0, by omega, e⟩
  obtain ⟨u, hu, hne⟩ := this
  rcases cn_first (T.cnT G hv hu) with e | ⟨y, hy⟩
  · exact absurd e hne
  · exact pc_pos (by have := G.lt hy; omega) hy
theorem q_sameDegrees (R : RF c n g w) (T : TR g n) : ∃ c', MSE m_X10_sameDegrees (d + 4) [.ref 70] (hp c) (some (.int (nI (sdU g n n)))) (hp c') ∧ QF c c' 0 := by
  obtain ⟨z, hz, h9, h6⟩ := R.Z
  have hn := R.le
  have hn1 := R.one
  have Q := QF.th (t := 0) R.S hz
  have R2 := R.q Q
  have f6 : (moL (up1 z 0 (nI 0)))[6]? = some (.int (nI n)) := R2.z6 (up1_same _ _ _)
  have ht : decide (comp g n 0 = al n) = true := decide_eq_true ((tr_al R.F.1 hn R.one).mpr T)
  refine ⟨_, e_X10_sameDegrees (b_X10_sameDegrees_0 (mo_H hz) (r_isTree R) (fun _ => b_X10_sameDegrees_12 (b_X10_sameDegrees_13 (mo_H hz) (r_fails0 hz) (fun _ => b_X10_sameDegrees_22 cT_H f6 (fun q => ?_) (fun q => b_X10_sameDegrees_30 ⟨?_, rfl⟩)) (fun q => absurd rfl q))) (fun q => absurd q (nv1 ht))), Q⟩
  · have h2 : 2 ≤ n := by
      rcases Nat.lt_or_ge 1 n with h | h
      · exact h
      · exact absurd (show nI n = 1 by rw [show n = 1 by omega]; rfl) q
    have e2 : nI n - 2 = nI (n - 2) := pk_sub (a := n) (b := 2) h2
    refine b_X10_sameDegrees_32 cT_H f6 (by rw [e2]; exact r_factorial (by omega)) ?_
    refine up_all (n := n) (T := fun k => SW none m_X10_sameDegrees (d + 4) 0 0 44 [some (.ref 70), some (.long (lN (sdU g n k))), none, some (.int (nI k))] [] (hp (cT c z (nI 0))) (rI (nI (sdU g n n)) (hp (cT c z (nI 0))))) (fun k hk ih => ?_) ?_
    · have ih : SW none m_X10_sameDegrees (d + 4) 0 0 44 [some (.ref 70), some (.long (lN (sdU g n k / fac (pc (g k) - 1)))), none, some (.int (nI (k + 1)))] [] (hp (cT c z (nI 0))) (rI (nI (sdU g n n)) (hp (cT c z (nI 0)))) := ih
      have hd := tr_deg R.F.1 T h2 hk hn
      have hpl := pc_le (g k)
      have hf := fac_ok (pc (g k) - 1) (by omega)
      have hs := sdU_le (g := g) (n := n) k
      have hs2 := fac_ok (n - 2) (by omega)
      have e3 : nI (pc (g k)) - 1 = nI (pc (g k) - 1) := pk_sub (a := pc (g k)) (b := 1) hd
      refine b_X10_sameDegrees_44 cT_H f6 (fun q => absurd q (nI_ge hk (by omega))) (fun _ => b_X10_sameDegrees_52 (x5 := nI (g k)) cT_H rfl R2.rowH (nI_pos (by omega)) (by rw [at20 (by omega), sv_lo (by omega)]) (r_ones (R.g10 k)) (by rw [e3]; exact r_factorial (by omega)) (fun e => ?_) ?_)
      · have := (pk_lEQ (a := fac (pc (g k) - 1)) (b := 0) (by omega) (by decide)).mp e
        omega
      · rw [nI_1, pk_lDiv (by omega) hf.1 (by omega)]; exact ih
    · refine b_X10_sameDegrees_44 cT_H f6 (fun _ => b_X10_sameDegrees_75 ⟨?_, rfl⟩) (fun q => absurd (nI_le (Nat.le_refl n) (by omega)) q)
      rw [lN_i]
  · have e : n = 1 := (i_eq (b := 1) (by omega) (by decide)).mp q
    subst e
    have h0 : g 0 = 0 := by
      have := R.F.1.1 0
      have h2 := R.F.1.2.2 0
      apply set_ext
      intro j
      rw [Nat.zero_testBit]
      cases hb : (g 0).testBit j
      · rfl
      · have := R.F.1.lt hb
        have : j = 0 := by omega
        subst this
        rw [hb] at h2; cases h2
    show Sum.inl (some (Value.int 1)) = Sum.inl (some (Value.int (nI (fac (1 - 2) / fac (pc (g 0) - 1)))))
    rw [h0, pc_0]; rfl
theorem q_sameDegreesX (R : RF c n g w) (T : ¬ TR g n) : ∃ c', MSE m_X10_sameDegrees (d + 4) [.ref 70] (hp c) (some (.int 0)) (hp c') ∧ QF c c' 1 := by
  obtain ⟨z, hz, h9, h6⟩ := R.Z
  have ht : decide (comp g n 0 = al n) = false := decide_eq_false (fun e => T ((tr_al R.F.1 R.le R.one).mp e))
  exact ⟨_, e_X10_sameDegrees (b_X10_sameDegrees_0 (mo_H hz) (r_isTree R) (fun q => absurd (nv0 ht) q) (fun _ => b_X10_sameDegrees_8 (b_X10_sameDegrees_13 (mo_H hz) (r_fails1 hz) (fun q => absurd q (by decide)) (fun _ => b_X10_sameDegrees_20 ⟨rfl, rfl⟩)))), QF.th R.S hz⟩
end
