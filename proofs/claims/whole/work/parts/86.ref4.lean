section
variable {d n t : Nat} {c c' : Nat → List Value} {g w w' : Nat → Nat} {z : Nat → Int32} {x y : Int32}
theorem SC.r72 (S : SC c) {o : Nat → Nat} : SC (up1 c 72 (ar 20 (fun i => nI (o i)))) := by
  obtain ⟨s1, s2, s3, s4, s5⟩ := S
  exact ⟨⟨o, up1_same _ _ _⟩, by rw [up1_ne _ _ (by decide)]; exact s2, by rw [up1_ne _ _ (by decide)]; exact s3, by rw [up1_ne _ _ (by decide)]; exact s4, by rw [up1_ne _ _ (by decide)]; exact s5⟩
theorem SC.r76 (S : SC c) {o : Nat → Nat} : SC (up1 c 76 (ar 121 (fun i => nI (o i)))) := by
  obtain ⟨s1, s2, s3, s4, s5⟩ := S
  exact ⟨by rw [up1_ne _ _ (by decide)]; exact s1, ⟨o, up1_same _ _ _⟩, by rw [up1_ne _ _ (by decide)]; exact s3, by rw [up1_ne _ _ (by decide)]; exact s4, by rw [up1_ne _ _ (by decide)]; exact s5⟩
theorem SC.r78 (S : SC c) {o : Nat → Nat} : SC (up1 c 78 (ar 10 (fun i => nI (o i)))) := by
  obtain ⟨s1, s2, s3, s4, s5⟩ := S
  exact ⟨by rw [up1_ne _ _ (by decide)]; exact s1, by rw [up1_ne _ _ (by decide)]; exact s2, ⟨o, up1_same _ _ _⟩, by rw [up1_ne _ _ (by decide)]; exact s4, by rw [up1_ne _ _ (by decide)]; exact s5⟩
theorem SC.r80 (S : SC c) {o : Nat → Int32} : SC (up1 c 80 (ar 11 o)) := by
  obtain ⟨s1, s2, s3, s4, s5⟩ := S
  exact ⟨by rw [up1_ne _ _ (by decide)]; exact s1, by rw [up1_ne _ _ (by decide)]; exact s2, by rw [up1_ne _ _ (by decide)]; exact s3, ⟨o, up1_same _ _ _⟩, by rw [up1_ne _ _ (by decide)]; exact s5⟩
theorem SC.r81 (S : SC c) {o : Nat → Int32} : SC (up1 c 81 (ar 40 o)) := by
  obtain ⟨s1, s2, s3, s4, s5⟩ := S
  exact ⟨by rw [up1_ne _ _ (by decide)]; exact s1, by rw [up1_ne _ _ (by decide)]; exact s2, by rw [up1_ne _ _ (by decide)]; exact s3, by rw [up1_ne _ _ (by decide)]; exact s4, ⟨o, up1_same _ _ _⟩⟩
theorem QF.up (Q : QF c c' t) {i : Nat} {v : List Value} (hi : i = 72 ∨ i = 76 ∨ i = 78 ∨ i = 80 ∨ i = 81) (S : SC (up1 c' i v)) : QF c (up1 c' i v) t := by
  obtain ⟨q1, q2, a, q3⟩ := Q
  exact ⟨fun j h1 h2 h3 h4 h5 h6 => (up1_ne _ _ (by omega)).trans (q1 j h1 h2 h3 h4 h5 h6), S, a, (up1_ne _ _ (by omega)).trans q3⟩
theorem QF.k (Q : QF c c' t) {K : Nat → Nat} : QF c (cK c' K) t := Q.up (by decide) Q.2.1.r76
theorem QF.oth (Q : QF c c' t) : QF c (cX c' g w) t := Q.up (by decide) Q.2.1.r72
/-! means -/
theorem dsm_nat (G : GR g n) (hn : n ≤ 10) {v : Nat} (hv : v < n) : ∀ k, k ≤ n → dsm g n v (comp g n v) k = nI (smU (comp g n v) (fun u => (ds g n v u).getD 0) k)
  | 0, _ => rfl
  | k + 1, hk => by
    have ih := dsm_nat G hn hv k (by omega)
    have e : dsm g n v (comp g n v) (k + 1) = if (comp g n v).testBit k = true then dsm g n v (comp g n v) k + iO (ds g n v k) else dsm g n v (comp g n v) k := rfl
    rw [e, smU_s, ih]
    by_cases hb : (comp g n v).testBit k = true
    · rw [if_pos hb, if_pos hb]
      obtain ⟨r, hr⟩ := (ds_cn G hn hv).mp ((comp_bit G hn hv).mp hb)
      rw [hr]
      exact nI_add _ r
    · rw [if_neg hb, if_neg hb]
theorem nn64 : ∀ a, a < 101 → ∀ b, b < 11 → 0 < b → vf_n64 (FP.ddiv (FP.i2d (nI a)) (FP.i2d (nI b))) := by
  unfold vf_n64
  decide +kernel
theorem nn32 : ∀ a, a < 11 → ∀ b, b < 11 → 0 < b → vf_n32 (FP.fdiv (FP.i2f (nI a)) (FP.i2f (nI b))) := by
  unfold vf_n32
  decide +kernel
theorem comp_pos (G : GR g n) (hn : n ≤ 10) {v : Nat} (hv : v < n) : 0 < pc (comp g n v) := pc_pos (v := v) (by omega) ((comp_bit G hn hv).mpr cn_rf)
theorem mean_nn (G : GR g n) (hn : n ≤ 10) {v : Nat} (hv : v < n) : vf_n64 (FP.ddiv (FP.i2d (dsm g n v (comp g n v) n)) (FP.i2d (nI (pc (comp g n v))))) := by
  rw [dsm_nat G hn hv n (Nat.le_refl _)]
  have h1 := smU_le (m := comp g n v) (B := 10) (e := fun u => (ds g n v u).getD 0) (fun i => Nat.le_trans ds_le hn) n
  exact nn64 _ (by omega) _ (by have := pc_le (comp g n v); omega) (comp_pos G hn hv)
theorem gp_le10 {v : Nat} : gp g w n v false ≤ 10 := mxU_le (fun u => by rw [if_neg (by decide)]; exact pc_le _) n
theorem bal_nn (G : GR g n) (hn : n ≤ 10) {v : Nat} (hv : v < n) : vf_n32 (FP.fdiv (FP.i2f (nI (gp g w n v false))) (FP.i2f (nI (pc (comp g n v))))) := by
  have h1 : gp g w n v false ≤ 10 := gp_le10
  exact nn32 _ (by omega) _ (by have := pc_le (comp g n v); omega) (comp_pos G hn hv)
theorem RF.z6 (R : RF c n g w) (hz : c 70 = moL z) : (moL z)[6]? = some (.int (nI n)) := by
  obtain ⟨z0, h1, -, h3⟩ := R.Z
  rw [← hz, h1, ← h3]; rfl
theorem q_meanDistance (R : RF c n g w) {v : Nat} (hv : v < n) : ∃ c', MSE m_X10_meanDistance (d + 3) [.ref 70, .int (nI v)] (hp c) (some (.double (FP.ddiv (FP.i2d (dsm g n v (comp g n v) n)) (FP.i2d (nI (pc (comp g n v))))))) (hp c') ∧ QF c c' 0 := by
  obtain ⟨z, h1, h2, h3⟩ := R.Z
  have hn := R.le
  have G := R.F.1
  have Q := QF.th (t := 0) R.S h1
  have R2 := R.q Q
  obtain ⟨fs, H⟩ := R.M
  have H2 := cT_H (c := c) (z := z) (t := nI 0)
  have f6 := R2.z6 (z := up1 z 0 (nI 0)) (up1_same _ _ _)
  have hcm : comp g n v < 1024 := rc_lt R.g10 (by omega)
  have hmc := mc_comp G hn hv
  have mc0 := r_component (d := d) R2.V R2.K (show v < 10 by omega)
  rw [hmc] at mc0
  refine ⟨_, e_X10_meanDistance (b_X10_meanDistance_0 H (r_isVertex R) (fun _ => b_X10_meanDistance_13 (b_X10_meanDistance_14 H (r_fails0 h1) (fun _ => b_X10_meanDistance_23 H2 mc0 ?_) (fun q => absurd rfl q))) (fun q => absurd q (nv1 (isV_t hv)))), Q⟩
  refine up_all (n := n) (T := fun k => a_X10_meanDistance_34 (d + 3) 0 0 70 (nI v) (nI (comp g n v)) (dsm g n v (comp g n v) k) (nI k) (hp (cT c z (nI 0))) (fun o k => o = .inl (some (.double (FP.ddiv (FP.i2d (dsm g n v (comp g n v) n)) (FP.i2d (nI (pc (comp g n v))))))) ∧ k = hp (cT c z (nI 0)))) (fun k hk ih => ?_) ?_
  · have ih : a_X10_meanDistance_34 (d + 3) 0 0 70 (nI v) (nI (comp g n v)) (dsm g n v (comp g n v) (k + 1)) (nI (k + 1)) (hp (cT c z (nI 0))) (fun o k => o = .inl (some (.double (FP.ddiv (FP.i2d (dsm g n v (comp g n v) n)) (FP.i2d (nI (pc (comp g n v))))))) ∧ k = hp (cT c z (nI 0))) := ih
    refine b_X10_meanDistance_34 H2 f6 (fun q => absurd q (nI_ge hk (by omega))) (fun _ => b_X10_meanDistance_43 (r_has (by omega) (by omega)) (fun q => b_X10_meanDistance_63 (b_X10_meanDistance_64 ?_)) (fun q => b_X10_meanDistance_53 H2 (r_far R2.V (by omega) (by omega)) (b_X10_meanDistance_64 ?_)))
    · have e : dsm g n v (comp g n v) (k + 1) = dsm g n v (comp g n v) k := if_neg (by rw [h01.mp q]; decide)
      rw [e] at ih
      rw [nI_1, Int32.add_zero]; exact ih
    · have e : dsm g n v (comp g n v) (k + 1) = dsm g n v (comp g n v) k + iO (ds g n v k) := if_pos (tb_of q)
      rw [e] at ih
      rw [nI_1]; exact ih
  · exact b_X10_meanDistance_34 H2 f6 (fun _ => b_X10_meanDistance_72 (r_ones hcm) (mean_nn G hn hv) ⟨rfl, rfl⟩) (fun q => absurd (nI_le (Nat.le_refl n) (by omega)) q)
theorem q_meanDistanceX (R : RF c n g w) (h : isV n x = false) : ∃ c', MSE m_X10_meanDistance (d + 3) [.ref 70, .int x] (hp c) (some (.double 0)) (hp c') ∧ QF c c' 1 := by
  obtain ⟨z, h1, h2, h3⟩ := R.Z
  obtain ⟨fs, H⟩ := R.M
  exact ⟨_, e_X10_meanDistance (b_X10_meanDistance_0 H (r_isVertex R) (fun q => absurd (nv0 h) q) (fun _ => b_X10_meanDistance_9 (b_X10_meanDistance_14 H (r_fails1 h1) (fun q => absurd q (by decide)) (fun _ => b_X10_meanDistance_21 ⟨rfl, rfl⟩)))), QF.th R.S h1⟩
theorem q_balance (R : RF c n g w) {v : Nat} (hv : v < n) : ∃ c', MSE m_X10_balance (d + 3) [.ref 70, .int (nI v)] (hp c) (some (.float (FP.fdiv (FP.i2f (nI (gp g w n v false))) (FP.i2f (nI (pc (comp g n v))))))) (hp c') ∧ QF c c' 0 := by
  obtain ⟨z, h1, h2, h3⟩ := R.Z
  have hn := R.le
  have G := R.F.1
  have Q := QF.th (t := 0) R.S h1
  have R2 := R.q Q
  obtain ⟨fs, H⟩ := R.M
  obtain ⟨fs2, H2⟩ := R2.M
  have mc0 := r_component (d := d) R2.V R2.K (show v < 10 by omega)
  rw [mc_comp G hn hv] at mc0
  have mg0 := r_greatestPart (d := d) R2.V R2.K R2.Y hv (b := false)
  rw [gp_mg G hn] at mg0
  exact ⟨_, e_X10_balance (b_X10_balance_0 H (r_isVertex R) (fun _ => b_X10_balance_13 (b_X10_balance_14 H (r_fails0 h1) (fun _ => b_X10_balance_23 H2 mg0 H2 mc0 (r_ones (rc_lt R.g10 (by omega))) (bal_nn G hn hv) ⟨rfl, rfl⟩) (fun q => absurd rfl q))) (fun q => absurd q (nv1 (isV_t hv)))), Q⟩
theorem q_balanceX (R : RF c n g w) (h : isV n x = false) : ∃ c', MSE m_X10_balance (d + 3) [.ref 70, .int x] (hp c) (some (.float 0)) (hp c') ∧ QF c c' 1 := by
  obtain ⟨z, h1, h2, h3⟩ := R.Z
  obtain ⟨fs, H⟩ := R.M
  exact ⟨_, e_X10_balance (b_X10_balance_0 H (r_isVertex R) (fun q => absurd (nv0 h) q) (fun _ => b_X10_balance_9 (b_X10_balance_14 H (r_fails1 h1) (fun q => absurd q (by decide)) (fun _ => b_X10_balance_21 ⟨rfl, rfl⟩)))), QF.th R.S h1⟩
/-! vertex(what) -/
theorem vx_pre (R : RF c n g w) (hz : c 70 = moL z) {v : Nat} (hv : v < n) {k : Nat} (hk : k < 8) {P : ab_O → ab_H → Prop} (K : SW none m_X10_vertex (d + 2) 0 0 43 [some (.ref 70), some (.int (nI v)), some (.int (nI k)), none] [] (hp (cT c z (nI 0))) P) : MS m_X10_vertex (d + 2) 0 0 [.ref 70, .int (nI v), .int (nI k)] (hp c) P := by
  obtain ⟨fs, H⟩ := R.M
  have mi := r_isIn (d := d + 1) (h := hp c) (x := nI k) (a := 0) (b := 7)
  rw [if_neg (fun q => by
    rcases q with q | q
    · exact nI_pos (by omega) q
    · exact nI_nlt (a := 7) (b := k) (by omega) (by decide) q)] at mi
  exact e_X10_vertex (b_X10_vertex_0 H (r_isVertex R) (fun _ => b_X10_vertex_15 (b_X10_vertex_16 (fun q => absurd q (nv1 (isV_t hv))) (fun _ => b_X10_vertex_20 mi (fun _ => b_X10_vertex_34 (b_X10_vertex_35 H (r_fails0 hz) (fun _ => K) (fun q => absurd rfl q))) (fun q => absurd q (by decide))))) (fun q => absurd q (nv1 (isV_t hv))))
theorem q_vertexX1 (R : RF c n g w) (h : isV n x = false) : ∃ c', MSE m_X10_vertex (d + 2) [.ref 70, .int x, .int y] (hp c) (some (.int 0)) (hp c') ∧ QF c c' 1 := by
  obtain ⟨z, h1, h2, h3⟩ := R.Z
  obtain ⟨fs, H⟩ := R.M
  exact ⟨_, e_X10_vertex (b_X10_vertex_0 H (r_isVertex R) (fun q => absurd (nv0 h) q) (fun _ => b_X10_vertex_11 (b_X10_vertex_16 (fun _ => b_X10_vertex_34 (b_X10_vertex_35 H (r_fails1 h1) (fun q => absurd q (by decide)) (fun _ => b_X10_vertex_41 ⟨rfl, rfl⟩))) (fun q => absurd (nv0 h) q)))), QF.th R.S h1⟩
theorem isIn_no {m : Nat} (hm : m < 2147483648) (h : ∀ k, k < m + 1 → x ≠ nI k) : MSE m_X10_isIn d [.int x, .int 0, .int (nI m)] (hp c) (some (.int 0)) (hp c) := by
  have mi := r_isIn (d := d) (h := hp c) (x := x) (a := 0) (b := nI m)
  rw [if_pos] at mi
  · exact mi
  · by_cases h0 : x < 0
    · exact Or.inl h0
    · right
      obtain ⟨k, hk, rfl⟩ := nI_of h0
      rcases Nat.lt_or_ge m k with q | q
      · exact nI_lt q hk
      · exact absurd rfl (h k (by omega))
theorem q_vertexX2 (R : RF c n g w) {v : Nat} (hv : v < n) (h : ∀ k, k < 8 → x ≠ nI k) : ∃ c', MSE m_X10_vertex (d + 2) [.ref 70, .int (nI v), .int x] (hp c) (some (.int 0)) (hp c') ∧ QF c c' 2 := by
  obtain ⟨z, h1, h2, h3⟩ := R.Z
  obtain ⟨fs, H⟩ := R.M
  exact ⟨_, e_X10_vertex (b_X10_vertex_0 H (r_isVertex R) (fun _ => b_X10_vertex_15 (b_X10_vertex_16 (fun q => absurd q (nv1 (isV_t hv))) (fun _ => b_X10_vertex_20 (isIn_no (m := 7) (by decide) h) (fun q => absurd rfl q) (fun _ => b_X10_vertex_30 (b_X10_vertex_35 H (r_fails2 h1) (fun q => absurd q (by decide)) (fun _ => b_X10_vertex_41 ⟨rfl, rfl⟩)))))) (fun q => absurd q (nv1 (isV_t hv)))), QF.th R.S h1⟩
theorem q_vertex0 (R : RF c n g w) {v : Nat} (hv : v < n) : ∃ c', MSE m_X10_vertex (d + 3) [.ref 70, .int (nI v), .int 0] (hp c) (some (.int (nI (pc (g v))))) (hp c') ∧ QF c c' 0 := by
  obtain ⟨z, h1, h2, h3⟩ := R.Z
  have hn := R.le
  have Q := QF.th (t := 0) R.S h1
  have R2 := R.q Q
  have H2 := cT_H (c := c) (z := z) (t := nI 0)
  exact ⟨_, vx_pre (d := d + 1) R h1 hv (k := 0) (by decide) (b_X10_vertex_43 (fun _ => b_X10_vertex_88 (x4 := nI (g v)) H2 rfl R2.rowH (nI_pos (by omega)) (by rw [at20 (by omega), sv_lo (by omega)]) (r_ones (R.g10 v)) ⟨rfl, rfl⟩) (fun q => absurd q (by decide)) (fun q => absurd q (by decide)) (fun q => absurd q (by decide)) (fun q => absurd q (by decide)) (fun q => absurd q (by decide)) (fun q => absurd q (by decide)) (fun q => absurd rfl (q 0 (by decide)))), Q⟩
theorem q_vertex1 (R : RF c n g w) {v : Nat} (hv : v < n) : ∃ c', MSE m_X10_vertex (d + 3) [.ref 70, .int (nI v), .int 1] (hp c) (some (.int (nI (w v)))) (hp c') ∧ QF c c' 0 := by
  obtain ⟨z, h1, h2, h3⟩ := R.Z
  have hn := R.le
  have Q := QF.th (t := 0) R.S h1
  have R2 := R.q Q
  have H2 := cT_H (c := c) (z := z) (t := nI 0)
  have e10 : (10 : Int32) + nI v = nI (10 + v) := nI_add 10 v
  exact ⟨_, vx_pre (d := d + 1) R h1 hv (k := 1) (by decide) (b_X10_vertex_43 (fun q => absurd q (by decide)) (fun _ => b_X10_vertex_98 (x6 := nI (w v)) H2 rfl R2.rowH (by rw [e10]; exact nI_pos (by omega)) (by rw [e10, at20 (by omega), sv_hi]) ⟨rfl, rfl⟩) (fun q => absurd q (by decide)) (fun q => absurd q (by decide)) (fun q => absurd q (by decide)) (fun q => absurd q (by decide)) (fun q => absurd q (by decide)) (fun q => absurd rfl (q 1 (by decide)))), Q⟩
theorem q_vertex2 (R : RF c n g w) {v l : Nat} (hv : v < n) (hl : low (comp g n v) = some l) : ∃ c', MSE m_X10_vertex (d + 4) [.ref 70, .int (nI v), .int 2] (hp c) (some (.int (nI (cnU (isR g n) l)))) (hp c') ∧ QF c c' 0 := by
  obtain ⟨z, h1, h2, h3⟩ := R.Z
  have hn := R.le
  have G := R.F.1
  have Q := QF.th (t := 0) R.S h1
  have R2 := R.q Q
  obtain ⟨fs2, H2⟩ := R2.M
  have hlz : lz (mc g n v) = l := by rw [mc_comp G hn hv]; exact lz_some hl
  have hln : l < n := G.into ((comp_bit G hn hv).mp (low_bit hl)) hv
  have m1 := r_numberOf (d := d) R2.V R2.K (show v < 10 by omega) (by rw [hlz]; omega)
  rw [hlz, roots_m G hn (show l ≤ n by omega)] at m1
  exact ⟨_, vx_pre (d := d + 2) R h1 hv (k := 2) (by decide) (b_X10_vertex_43 (fun q => absurd q (by decide)) (fun q => absurd q (by decide)) (fun _ => b_X10_vertex_108 H2 m1 ⟨rfl, rfl⟩) (fun q => absurd q (by decide)) (fun q => absurd q (by decide)) (fun q => absurd q (by decide)) (fun q => absurd q (by decide)) (fun q => absurd rfl (q 2 (by decide)))), Q⟩
theorem q_vertex3 (R : RF c n g w) {v : Nat} (hv : v < n) : ∃ c', MSE m_X10_vertex (d + 4) [.ref 70, .int (nI v), .int 3] (hp c) (some (.int (nI (pc (comp g n v))))) (hp c') ∧ QF c c' 0 := by
  obtain ⟨z, h1, h2, h3⟩ := R.Z
  have hn := R.le
  have Q := QF.th (t := 0) R.S h1
  have R2 := R.q Q
  obtain ⟨fs2, H2⟩ := R2.M
  have m1 := r_component (d := d + 1) R2.V R2.K (show v < 10 by omega)
  rw [mc_comp R.F.1 hn hv] at m1
  exact ⟨_, vx_pre (d := d + 2) R h1 hv (k := 3) (by decide) (b_X10_vertex_43 (fun q => absurd q (by decide)) (fun q => absurd q (by decide)) (fun q => absurd q (by decide)) (fun _ => b_X10_vertex_114 H2 m1 (r_ones (rc_lt R.g10 (by omega))) ⟨rfl, rfl⟩) (fun q => absurd q (by decide)) (fun q => absurd q (by decide)) (fun q => absurd q (by decide)) (fun q => absurd rfl (q 3 (by decide)))), Q⟩
theorem q_vertex4 (R : RF c n g w) {v : Nat} (hv : v < n) : ∃ c', MSE m_X10_vertex (d + 4) [.ref 70, .int (nI v), .int 4] (hp c) (some (.int (nI (ec g n v)))) (hp c') ∧ QF c c' 0 := by
  obtain ⟨z, h1, h2, h3⟩ := R.Z
  have hn := R.le
  have Q := QF.th (t := 0) R.S h1
  have R2 := R.q Q
  obtain ⟨fs2, H2⟩ := R2.M
  have m1 := r_eccentricity (d := d) R2.V R2.K hv
  rw [mE_ec R.F.1 hn hv] at m1
  exact ⟨_, vx_pre (d := d + 2) R h1 hv (k := 4) (by decide) (b_X10_vertex_43 (fun q => absurd q (by decide)) (fun q => absurd q (by decide)) (fun q => absurd q (by decide)) (fun q => absurd q (by decide)) (fun _ => b_X10_vertex_123 H2 m1 ⟨rfl, rfl⟩) (fun q => absurd q (by decide)) (fun q => absurd q (by decide)) (fun q => absurd rfl (q 4 (by decide)))), Q⟩
theorem q_vertex5 (R : RF c n g w) {v r : Nat} (hv : v < n) (hr : r < 10) (a1 : ∀ j, j < r → dlI g n j v ≠ 0) (a2 : dlI g n r v = 0) : ∃ c', MSE m_X10_vertex (d + 4) [.ref 70, .int (nI v), .int 5] (hp c) (some (.int (nI r))) (hp c') ∧ QF c c' 0 := by
  obtain ⟨z, h1, h2, h3⟩ := R.Z
  have hn := R.le
  have Q := QF.th (t := 0) R.S h1
  have R2 := R.q Q
  obtain ⟨fs2, H2⟩ := R2.M
  exact ⟨_, vx_pre (d := d + 2) R h1 hv (k := 5) (by decide) (b_X10_vertex_43 (fun q => absurd q (by decide)) (fun q => absurd q (by decide)) (fun q => absurd q (by decide)) (fun q => absurd q (by decide)) (fun q => absurd q (by decide)) (fun _ => b_X10_vertex_129 H2 (r_round (d := d) R2 hv hr a1 a2) ⟨rfl, rfl⟩) (fun q => absurd q (by decide)) (fun q => absurd rfl (q 5 (by decide)))), Q.oth⟩
theorem q_vertex6 (R : RF c n g w) {v : Nat} (hv : v < n) : ∃ c', MSE m_X10_vertex (d + 3) [.ref 70, .int (nI v), .int 6] (hp c) (some (.int (nI (g v)))) (hp c') ∧ QF c c' 0 := by
  obtain ⟨z, h1, h2, h3⟩ := R.Z
  have hn := R.le
  have Q := QF.th (t := 0) R.S h1
  have R2 := R.q Q
  have H2 := cT_H (c := c) (z := z) (t := nI 0)
  exact ⟨_, vx_pre (d := d + 1) R h1 hv (k := 6) (by decide) (b_X10_vertex_43 (fun q => absurd q (by decide)) (fun q => absurd q (by decide)) (fun q => absurd q (by decide)) (fun q => absurd q (by decide)) (fun q => absurd q (by decide)) (fun q => absurd q (by decide)) (fun _ => b_X10_vertex_135 (x4 := nI (g v)) H2 rfl R2.rowH (nI_pos (by omega)) (by rw [at20 (by omega), sv_lo (by omega)]) ⟨rfl, rfl⟩) (fun q => absurd rfl (q 6 (by decide)))), Q⟩
theorem q_vertex7 (R : RF c n g w) {v : Nat} (hv : v < n) : ∃ c', MSE m_X10_vertex (d + 16) [.ref 70, .int (nI v), .int 7] (hp c) (some (.int (nI (stU (orB (Rw g n) (mc g n v) (Rw g n v)) n)))) (hp c') ∧ QF c c' 0 := by
  obtain ⟨z, h1, h2, h3⟩ := R.Z
  have hn := R.le
  have Q := QF.th (t := 0) R.S h1
  have R2 := R.q Q
  obtain ⟨fs2, H2⟩ := R2.M
  obtain ⟨K, hK⟩ := R2.kid
  obtain ⟨K', m1⟩ := r_orbit (d := d) R2.V R2.K R2.O hv (K := K)
  rw [hK] at m1
  exact ⟨_, vx_pre (d := d + 14) R h1 hv (k := 7) (by decide) (b_X10_vertex_43 (fun q => absurd q (by decide)) (fun q => absurd q (by decide)) (fun q => absurd q (by decide)) (fun q => absurd q (by decide)) (fun q => absurd q (by decide)) (fun q => absurd q (by decide)) (fun q => absurd q (by decide)) (fun _ => b_X10_vertex_142 H2 m1 ⟨rfl, rfl⟩)), Q.k⟩
/-! component(what) -/
theorem r_isComponent (R : RF c n g w) : MSE m_X10_isComponent (d + 4) [.ref 70, .int x] (hp c) (some (.int (nI (if isV (cnU (isR g n) n) x = true then 1 else 0)))) (hp c) := by
  have hn := R.le
  obtain ⟨fs, H⟩ := R.M
  have m1 := r_componentMany (d := d) R.V R.K
  rw [roots_m R.F.1 hn (Nat.le_refl n)] at m1
  have hle := cnU_le (p := isR g n) n
  exact e_X10_isComponent (b_X10_isComponent_0 H m1 (r_isInV (by omega)) bl01 ⟨rfl, rfl⟩)
theorem cx_pre (R : RF c n g w) (hz : c 70 = moL z) (hv : isV (cnU (isR g n) n) x = true) {k : Nat} (hk : k < 7) {P : ab_O → ab_H → Prop} (K : SW none m_X10_component_ (d + 5) 0 0 43 [some (.ref 70), some (.int x), some (.int (nI k)), none, none] [] (hp (cT c z (nI 0))) P) : MS m_X10_component_ (d + 5) 0 0 [.ref 70, .int x, .int (nI k)] (hp c) P := by
  obtain ⟨fs, H⟩ := R.M
  have mi := r_isIn (d := d + 4) (h := hp c) (x := nI k) (a := 0) (b := 6)
  rw [if_neg (fun q => by
    rcases q with q | q
    · exact nI_pos (by omega) q
    · exact nI_nlt (a := 6) (b := k) (by omega) (by decide) q)] at mi
  exact e_X10_component_ (b_X10_component__0 H (r_isComponent R) (fun _ => b_X10_component__15 (b_X10_component__16 (fun q => absurd q (nv1 hv)) (fun _ => b_X10_component__20 mi (fun _ => b_X10_component__34 (b_X10_component__35 H (r_fails0 hz) (fun _ => K) (fun q => absurd rfl q))) (fun q => absurd q (by decide))))) (fun q => absurd q (nv1 hv)))
theorem q_componentX1 (R : RF c n g w) (h : isV (cnU (isR g n) n) x = false) : ∃ c', MSE m_X10_component_ (d + 5) [.ref 70, .int x, .int y] (hp c) (some (.int 0)) (hp c') ∧ QF c c' 1 := by
  obtain ⟨z, h1, h2, h3⟩ := R.Z
  obtain ⟨fs, H⟩ := R.M
  exact ⟨_, e_X10_component_ (b_X10_component__0 H (r_isComponent R) (fun q => absurd (nv0 h) q) (fun _ => b_X10_component__11 (b_X10_component__16 (fun _ => b_X10_component__34 (b_X10_component__35 H (r_fails1 h1) (fun q => absurd q (by decide)) (fun _ => b_X10_component__41 ⟨rfl, rfl⟩))) (fun q => absurd (nv0 h) q)))), QF.th R.S h1⟩
theorem q_componentX2 (R : RF c n g w) (hv : isV (cnU (isR g n) n) x = true) (h : ∀ k, k < 7 → y ≠ nI k) : ∃ c', MSE m_X10_component_ (d + 5) [.ref 70, .int x, .int y] (hp c) (some (.int 0)) (hp c') ∧ QF c c' 2 := by
  obtain ⟨z, h1, h2, h3⟩ := R.Z
  obtain ⟨fs, H⟩ := R.M
  exact ⟨_, e_X10_component_ (b_X10_component__0 H (r_isComponent R) (fun _ => b_X10_component__15 (b_X10_component__16 (fun q => absurd q (nv1 hv)) (fun _ => b_X10_component__20 (isIn_no (m := 6) (by decide) h) (fun q => absurd rfl q) (fun _ => b_X10_component__30 (b_X10_component__35 H (r_fails2 h1) (fun q => absurd q (by decide)) (fun _ => b_X10_component__41 ⟨rfl, rfl⟩)))))) (fun q => absurd q (nv1 hv))), QF.th R.S h1⟩
theorem r_cs (R : RF c n g w) : MSE m_X10_componentAt (d + 3) [.ref 70, .int x] (hp c) (some (.int (nI (cs g n x)))) (hp c) := by
  rw [cs_ma R.F.1 R.le]
  exact r_componentAt R.V R.K
/-- what a property of a component is -/
def cpv (g w : Nat → Nat) (n : Nat) (x : Int32) (k : Nat) : Nat := if k = 0 then cs g n x else if k = 1 then mxU (cs g n x) (ec g n) n else if k < 5 then (lbU (cs g n x) (ms g w n (k - 2)) n).2 else cnU (lvB g (cs g n x)) n
theorem q_component (R : RF c n g w) (hv : isV (cnU (isR g n) n) x = true) {k : Nat} (hk : k < 7) (h5 : k ≠ 5) : ∃ c', MSE m_X10_component_ (d + 6) [.ref 70, .int x, .int (nI k)] (hp c) (some (.int (nI (cpv g w n x k)))) (hp c') ∧ QF c c' 0 := by
  obtain ⟨z, h1, h2, h3⟩ := R.Z
  have hn := R.le
  have G := R.F.1
  have Q := QF.th (t := 0) R.S h1
  have R2 := R.q Q
  obtain ⟨fs2, H2⟩ := R2.M
  have hcs := cs_lt (x := x) R.g10 hn
  have ml : ∀ j, j < 3 → MSE m_X10_leastOf (d + 5) [.ref 70, .int (nI (cs g n x)), .int (nI j)] (hp (cT c z (nI 0))) (some (.int (nI (lbU (cs g n x) (ms g w n j) n).2))) (hp (cT c z (nI 0))) := fun j hj => by
    rw [← lb_ms G hn]
    exact r_leastOf R2.V R2.K R2.Y hcs hj
  have md := r_diameter (d := d + 1) R2.V R2.K hcs
  rw [mx_ec G hn] at md
  refine ⟨_, cx_pre (d := d + 1) R h1 hv hk (b_X10_component__43 H2 (r_cs (d := d + 2) R2) (fun q => ?_) (fun q => ?_) (fun q => ?_) (fun q => ?_) (fun q => ?_) (fun q => ?_) (fun q => ?_)), Q⟩
  · have e : k = 0 := (i_eq0 (by omega)).mp q
    subst e
    exact b_X10_component__88 ⟨rfl, rfl⟩
  · have e : k = 1 := (i_eq (b := 1) (by omega) (by decide)).mp q
    subst e
    exact b_X10_component__91 H2 md ⟨rfl, rfl⟩
  · have e : k = 2 := (i_eq (b := 2) (by omega) (by decide)).mp q
    subst e
    exact b_X10_component__98 H2 (ml 0 (by decide)) ⟨rfl, rfl⟩
  · have e : k = 3 := (i_eq (b := 3) (by omega) (by decide)).mp q
    subst e
    exact b_X10_component__106 H2 (ml 1 (by decide)) ⟨rfl, rfl⟩
  · have e : k = 4 := (i_eq (b := 4) (by omega) (by decide)).mp q
    subst e
    exact b_X10_component__114 H2 (ml 2 (by decide)) ⟨rfl, rfl⟩
  · have e : k = 5 := (i_eq (b := 5) (by omega) (by decide)).mp q
    exact absurd e h5
  · have e : k = 6 := by
      have h := fun i hi => q i hi
      rcases (show k = 0 ∨ k = 1 ∨ k = 2 ∨ k = 3 ∨ k = 4 ∨ k = 5 ∨ k = 6 by omega) with e | e | e | e | e | e | e
      · exact absurd (by rw [e]; rfl) (h 0 (by decide))
      · exact absurd (by rw [e]; rfl) (h 1 (by decide))
      · exact absurd (by rw [e]; rfl) (h 2 (by decide))
      · exact absurd (by rw [e]; rfl) (h 3 (by decide))
      · exact absurd (by rw [e]; rfl) (h 4 (by decide))
      · exact absurd (by rw [e]; rfl) (h 5 (by decide))
      · exact e
    subst e
    exact b_X10_component__128 H2 (r_leavesIn (d := d + 3) R2.V hcs) ⟨rfl, rfl⟩
theorem q_component5 (R : RF c n g w) {k : Nat} (hk : k < cnU (isR g n) n) : ∃ c', MSE m_X10_component_ (d + 20) [.ref 70, .int (nI k), .int 5] (hp c) (some (.int (nI (Kl (Cw g w n) k)))) (hp c') ∧ QF c c' 0 := by
  obtain ⟨z, h1, h2, h3⟩ := R.Z
  have hn := R.le
  have Q := QF.th (t := 0) R.S h1
  have R2 := R.q Q
  obtain ⟨fs2, H2⟩ := R2.M
  have hle := cnU_le (p := isR g n) n
  obtain ⟨K, hK⟩ := R2.kid
  obtain ⟨K', m1⟩ := r_classAt (d := d) R2.V R2.K R2.Y R2.O (k := k) (by omega) (K := K)
  rw [hK] at m1
  exact ⟨_, cx_pre (d := d + 15) R h1 (isV_t hk) (k := 5) (by decide) (b_X10_component__43 H2 (r_cs (d := d + 16) R2) (fun q => absurd q (by decide)) (fun q => absurd q (by decide)) (fun q => absurd q (by decide)) (fun q => absurd q (by decide)) (fun q => absurd q (by decide)) (fun _ => b_X10_component__122 H2 m1 ⟨rfl, rfl⟩) (fun q => absurd rfl (q 5 (by decide)))), Q.k⟩
end
