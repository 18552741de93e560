section
variable {d n t : Nat} {c c' : Nat → List Value} {g w : Nat → Nat} {z : Nat → Int32} {x y u3 : Int32}
theorem q_onPath (R : RF c n g w) {a b s L k : Nat} (ha : a < n) (hb : b < n) (h : ds g n a b = some L) (hs : s ≤ L) (hk : pv g n a b (nI s) = some k) : ∃ c', MSE m_X10_onPath (d + 4) [.ref 70, .int (nI a), .int (nI b), .int (nI s)] (hp c) (some (.int (nI k))) (hp c') ∧ QF c c' 0 := by
  obtain ⟨z, h1, h2, h3⟩ := R.Z
  have hn := R.le
  have hL := ds_lt h
  obtain ⟨k', k1, k2, k3, k4, k5⟩ := pv_some R.F.1 hn ha hb h hs
  rw [hk] at k2; cases k2
  have Q := QF.th (t := 0) R.S h1
  have R2 := R.q Q
  obtain ⟨fs, H⟩ := R.M
  obtain ⟨fs2, H2⟩ := R2.M
  have mf := r_far (d := d + 2) R.V (show a < 10 by omega) (show b < 10 by omega)
  have mi := r_isIn (d := d + 3) (h := hp c) (x := nI s) (a := 0) (b := nI L)
  rw [if_neg (fun q => by
    rcases q with q | q
    · exact nI_pos (by omega) q
    · exact nI_nlt hs (by omega) q)] at mi
  have hne : ¬ iO (ds g n a b) = -1 := fun e => by rw [(iO_m1 hn).mp e] at h; cases h
  have loop : ∀ j i, i + j = k → a_X10_onPath_79 (d + 4) 0 0 70 (nI a) (nI b) (nI s) (nI i) (hp (cT c z (nI 0))) (rI (nI k) (hp (cT c z (nI 0)))) := by
    intro j
    induction j with
    | zero =>
      intro i hi
      have : i = k := by omega
      subst this
      have mb := r_isBetween (d := d + 1) R2.V (v := i) (a := a) (b := b) (by omega) (by omega) (by omega)
      have mg := r_far (d := d + 2) R2.V (show a < 10 by omega) (show i < 10 by omega)
      refine b_X10_onPath_79 H2 mb (fun q => absurd q (nv1 k3)) (fun _ => b_X10_onPath_90 H2 mg (fun _ => b_X10_onPath_107 ⟨rfl, rfl⟩) (fun q => absurd k4 q))
    | succ j ih =>
      intro i hi
      have mb := r_isBetween (d := d + 1) R2.V (v := i) (a := a) (b := b) (by omega) (by omega) (by omega)
      have mg := r_far (d := d + 2) R2.V (show a < 10 by omega) (show i < 10 by omega)
      have hi5 := k5 i (by omega)
      have nxt : a_X10_onPath_79 (d + 4) 0 0 70 (nI a) (nI b) (nI s) (nI i + 1) (hp (cT c z (nI 0))) (rI (nI k) (hp (cT c z (nI 0)))) := by rw [nI_1]; exact ih (i + 1) (by omega)
      exact b_X10_onPath_79 H2 mb (fun _ => b_X10_onPath_101 nxt) (fun q => b_X10_onPath_90 H2 mg (fun q2 => absurd ⟨tb_of q, q2⟩ hi5) (fun _ => b_X10_onPath_101 nxt))
  exact ⟨_, e_X10_onPath (b_X10_onPath_0 H (r_isVertex R) (fun q => absurd q (nv1 (isV_t ha))) (fun _ => b_X10_onPath_8 H (r_isVertex R) (fun q => absurd q (nv1 (isV_t hb))) (fun _ => b_X10_onPath_16 (b_X10_onPath_21 (fun _ => b_X10_onPath_33 (b_X10_onPath_34 (fun q => absurd q (by decide)) (fun _ => b_X10_onPath_39 H mf (fun q => absurd q hne) (fun _ => b_X10_onPath_49 H (by rw [h] at mf; exact mf) mi (fun _ => b_X10_onPath_67 (b_X10_onPath_68 H (r_fails0 h1) (fun _ => b_X10_onPath_76 (loop k 0 (by omega))) (fun q => absurd rfl q))) (fun q => absurd q (by decide)))))) (fun q => absurd q (by decide)))))), Q⟩
theorem q_onPathX1 (R : RF c n g w) (h : isV n x = false ∨ isV n y = false) : ∃ c', MSE m_X10_onPath (d + 4) [.ref 70, .int x, .int y, .int u3] (hp c) (some (.int 0)) (hp c') ∧ QF c c' 1 := by
  obtain ⟨z, h1, h2, h3⟩ := R.Z
  have Q := QF.th (t := 1) R.S h1
  obtain ⟨fs, H⟩ := R.M
  have fin : SW none m_X10_onPath (d + 4) 0 0 20 [some (.ref 70), some (.int x), some (.int y), some (.int u3), none, none] [] (hp c) (rI 0 (hp (cT c z (nI 1)))) := b_X10_onPath_20 (b_X10_onPath_21 (fun q => absurd rfl q) (fun _ => b_X10_onPath_29 (b_X10_onPath_34 (fun _ => b_X10_onPath_67 (b_X10_onPath_68 H (r_fails1 h1) (fun q => absurd q (by decide)) (fun _ => b_X10_onPath_74 ⟨rfl, rfl⟩))) (fun q => absurd rfl q))))
  refine ⟨_, e_X10_onPath (b_X10_onPath_0 H (r_isVertex R) (fun _ => fin) (fun q => b_X10_onPath_8 H (r_isVertex R) (fun _ => fin) (fun q2 => ?_))), Q⟩
  rcases h with h | h
  · exact absurd (nv0 h) q
  · exact absurd (nv0 h) q2
theorem q_onPathX2 (R : RF c n g w) {a b : Nat} (ha : a < n) (hb : b < n) (h : ds g n a b = none ∨ ∃ L, ds g n a b = some L ∧ ∀ s, s ≤ L → x ≠ nI s) : ∃ c', MSE m_X10_onPath (d + 4) [.ref 70, .int (nI a), .int (nI b), .int x] (hp c) (some (.int 0)) (hp c') ∧ QF c c' 2 := by
  obtain ⟨z, h1, h2, h3⟩ := R.Z
  have hn := R.le
  have Q := QF.th (t := 2) R.S h1
  obtain ⟨fs, H⟩ := R.M
  have mf := r_far (d := d + 2) R.V (show a < 10 by omega) (show b < 10 by omega)
  have fin : SW none m_X10_onPath (d + 4) 0 0 63 [some (.ref 70), some (.int (nI a)), some (.int (nI b)), some (.int x), none, none] [.int 0, .ref 70] (hp c) (rI 0 (hp (cT c z (nI 2)))) := b_X10_onPath_63 (b_X10_onPath_68 H (r_fails2 h1) (fun q => absurd q (by decide)) (fun _ => b_X10_onPath_74 ⟨rfl, rfl⟩))
  refine ⟨_, e_X10_onPath (b_X10_onPath_0 H (r_isVertex R) (fun q => absurd q (nv1 (isV_t ha))) (fun _ => b_X10_onPath_8 H (r_isVertex R) (fun q => absurd q (nv1 (isV_t hb))) (fun _ => b_X10_onPath_16 (b_X10_onPath_21 (fun _ => b_X10_onPath_33 (b_X10_onPath_34 (fun q => absurd q (by decide)) (fun _ => b_X10_onPath_39 H mf (fun _ => fin) (fun q => b_X10_onPath_49 H mf r_isIn (fun q2 => ?_) (fun _ => fin))))) (fun q => absurd q (by decide)))))), Q⟩
  exfalso
  rcases h with h | ⟨L, h, hx⟩
  · exact q ((iO_m1 hn).mpr h)
  · have hL := ds_lt h
    rw [h] at q2
    apply q2
    have q2 : ¬ nI (if x < 0 ∨ nI L < x then 0 else 1) = 0 := q2
    show nI (if x < 0 ∨ nI L < x then 0 else 1) = 0
    rw [if_pos]
    · rfl
    · rcases pk_ix x (n := L + 1) (by omega) with e | e | ⟨j, hj, e⟩
      · exact Or.inl e
      · by_cases h0 : x < 0
        · exact Or.inl h0
        · right
          obtain ⟨k, hk, rfl⟩ := nI_of h0
          have := (nI_leI (show L + 1 < 2147483648 by omega) hk).mp e
          exact nI_lt (by omega) hk
      · exact absurd e (hx j (by omega))
/-! medians -/
theorem q_median (R : RF c n g w) {a b e k : Nat} (ha : a < n) (hb : b < n) (he : e < n) (h : ds g n a b ≠ none) (h' : ds g n a e ≠ none) (hk : low (md g n a b e) = some k) : ∃ c', MSE m_X10_median (d + 4) [.ref 70, .int (nI a), .int (nI b), .int (nI e)] (hp c) (some (.int (nI k))) (hp c') ∧ QF c c' 0 := by
  obtain ⟨z, h1, h2, h3⟩ := R.Z
  have hn := R.le
  have G := R.F.1
  have Q := QF.th (t := 0) R.S h1
  have R2 := R.q Q
  obtain ⟨fs, H⟩ := R.M
  obtain ⟨fs2, H2⟩ := R2.M
  have hbe : ds g n b e ≠ none := by
    obtain ⟨i, hi⟩ := Option.ne_none_iff_exists'.mp h
    obtain ⟨j, hj⟩ := Option.ne_none_iff_exists'.mp h'
    obtain ⟨q, hq⟩ := (ds_cn G hn hb).mp (cn_tr (G.cnT ((ds_cn G hn ha).mpr ⟨i, hi⟩)) ((ds_cn G hn ha).mpr ⟨j, hj⟩))
    rw [hq]; intro e; cases e
  have hbit : ∀ v, v < n → ((md g n a b e).testBit v = true ↔ btw g n v a b = true ∧ btw g n v a e = true ∧ btw g n v b e = true) := fun v hv => by
    unfold md
    rw [Nat.testBit_and, Nat.testBit_and, Bool.and_eq_true, Bool.and_eq_true, ps_btw G hn ha hb hv h, ps_btw G hn hb he hv hbe, ps_btw G hn ha he hv h']
    exact ⟨fun q => ⟨q.1.1, q.2, q.1.2⟩, fun q => ⟨⟨q.1, q.2.2⟩, q.2.1⟩⟩
  have hkb := low_bit hk
  have hkn : k < n := by
    unfold md at hkb
    rw [Nat.testBit_and, Nat.testBit_and, Bool.and_eq_true, Bool.and_eq_true] at hkb
    have := hkb.1.1
    unfold ps at this
    rw [if_neg h, stU_bit, Bool.and_eq_true, decide_eq_true_eq] at this
    exact this.1
  obtain ⟨k1, k2, k3⟩ := (hbit k hkn).mp hkb
  have mb : ∀ v p q, v < n → p < n → q < n → MSE m_X10_isBetween (d + 3) [.ref 70, .int (nI v), .int (nI p), .int (nI q)] (hp (cT c z (nI 0))) (some (.int (nI (if btw g n v p q = true then 1 else 0)))) (hp (cT c z (nI 0))) := fun v p q h1 h2 h3 => r_isBetween (d := d + 1) R2.V (by omega) (by omega) (by omega)
  have loop : ∀ j i, i + j = k → a_X10_median_83 (d + 4) 0 0 70 (nI a) (nI b) (nI e) (nI i) (hp (cT c z (nI 0))) (rI (nI k) (hp (cT c z (nI 0)))) := by
    intro j
    induction j with
    | zero =>
      intro i hi
      have : i = k := by omega
      subst this
      exact b_X10_median_83 H2 (mb i a b hkn ha hb) (fun q => absurd q (nv1 k1)) (fun _ => b_X10_median_94 H2 (mb i a e hkn ha he) (fun q => absurd q (nv1 k2)) (fun _ => b_X10_median_105 H2 (mb i b e hkn hb he) (fun _ => b_X10_median_122 ⟨rfl, rfl⟩) (fun q => absurd q (nv1 k3))))
    | succ j ih =>
      intro i hi
      have hin : i < n := by omega
      have nxt : a_X10_median_83 (d + 4) 0 0 70 (nI a) (nI b) (nI e) (nI i + 1) (hp (cT c z (nI 0))) (rI (nI k) (hp (cT c z (nI 0)))) := by rw [nI_1]; exact ih (i + 1) (by omega)
      refine b_X10_median_83 H2 (mb i a b hin ha hb) (fun _ => b_X10_median_116 nxt) (fun q => b_X10_median_94 H2 (mb i a e hin ha he) (fun _ => b_X10_median_116 nxt) (fun q2 => b_X10_median_105 H2 (mb i b e hin hb he) (fun q3 => ?_) (fun _ => b_X10_median_116 nxt)))
      have := low_min hk ((hbit i hin).mpr ⟨tb_of q, tb_of q2, tb_of q3⟩)
      omega
  have hne : ¬ iO (ds g n a b) = -1 := fun e => h ((iO_m1 hn).mp e)
  have hne' : ¬ iO (ds g n a e) = -1 := fun q => h' ((iO_m1 hn).mp q)
  exact ⟨_, e_X10_median (b_X10_median_0 H (r_isVertex R) (fun q => absurd q (nv1 (isV_t ha))) (fun _ => b_X10_median_8 H (r_isVertex R) (fun q => absurd q (nv1 (isV_t hb))) (fun _ => b_X10_median_16 H (r_isVertex R) (fun q => absurd q (nv1 (isV_t he))) (fun _ => b_X10_median_24 (b_X10_median_29 (fun _ => b_X10_median_41 (b_X10_median_42 (fun q => absurd q (by decide)) (fun _ => b_X10_median_47 H (r_far R.V (by omega) (by omega)) (fun q => absurd q hne) (fun _ => b_X10_median_57 H (r_far R.V (by omega) (by omega)) (fun _ => b_X10_median_71 (b_X10_median_72 H (r_fails0 h1) (fun _ => b_X10_median_80 (loop k 0 (by omega))) (fun q => absurd rfl q))) (fun q => absurd q hne'))))) (fun q => absurd q (by decide))))))), Q⟩
theorem q_medianX1 (R : RF c n g w) (h : isV n x = false ∨ isV n y = false ∨ isV n u3 = false) : ∃ c', MSE m_X10_median (d + 4) [.ref 70, .int x, .int y, .int u3] (hp c) (some (.int 0)) (hp c') ∧ QF c c' 1 := by
  obtain ⟨z, h1, h2, h3⟩ := R.Z
  have Q := QF.th (t := 1) R.S h1
  obtain ⟨fs, H⟩ := R.M
  have fin : SW none m_X10_median (d + 4) 0 0 28 [some (.ref 70), some (.int x), some (.int y), some (.int u3), none, none] [] (hp c) (rI 0 (hp (cT c z (nI 1)))) := b_X10_median_28 (b_X10_median_29 (fun q => absurd rfl q) (fun _ => b_X10_median_37 (b_X10_median_42 (fun _ => b_X10_median_71 (b_X10_median_72 H (r_fails1 h1) (fun q => absurd q (by decide)) (fun _ => b_X10_median_78 ⟨rfl, rfl⟩))) (fun q => absurd rfl q))))
  refine ⟨_, e_X10_median (b_X10_median_0 H (r_isVertex R) (fun _ => fin) (fun q => b_X10_median_8 H (r_isVertex R) (fun _ => fin) (fun q2 => b_X10_median_16 H (r_isVertex R) (fun _ => fin) (fun q3 => ?_)))), Q⟩
  rcases h with h | h | h
  · exact absurd (nv0 h) q
  · exact absurd (nv0 h) q2
  · exact absurd (nv0 h) q3
theorem q_medianX2 (R : RF c n g w) {a b e : Nat} (ha : a < n) (hb : b < n) (he : e < n) (h : ds g n a b = none ∨ ds g n a e = none) : ∃ c', MSE m_X10_median (d + 4) [.ref 70, .int (nI a), .int (nI b), .int (nI e)] (hp c) (some (.int 0)) (hp c') ∧ QF c c' 2 := by
  obtain ⟨z, h1, h2, h3⟩ := R.Z
  have hn := R.le
  have Q := QF.th (t := 2) R.S h1
  obtain ⟨fs, H⟩ := R.M
  have fin : SW none m_X10_median (d + 4) 0 0 67 [some (.ref 70), some (.int (nI a)), some (.int (nI b)), some (.int (nI e)), none, none] [.int 0, .ref 70] (hp c) (rI 0 (hp (cT c z (nI 2)))) := b_X10_median_67 (b_X10_median_72 H (r_fails2 h1) (fun q => absurd q (by decide)) (fun _ => b_X10_median_78 ⟨rfl, rfl⟩))
  refine ⟨_, e_X10_median (b_X10_median_0 H (r_isVertex R) (fun q => absurd q (nv1 (isV_t ha))) (fun _ => b_X10_median_8 H (r_isVertex R) (fun q => absurd q (nv1 (isV_t hb))) (fun _ => b_X10_median_16 H (r_isVertex R) (fun q => absurd q (nv1 (isV_t he))) (fun _ => b_X10_median_24 (b_X10_median_29 (fun _ => b_X10_median_41 (b_X10_median_42 (fun q => absurd q (by decide)) (fun _ => b_X10_median_47 H (r_far R.V (by omega) (by omega)) (fun _ => fin) (fun q => b_X10_median_57 H (r_far R.V (by omega) (by omega)) (fun q2 => ?_) (fun _ => fin))))) (fun q => absurd q (by decide))))))), Q⟩
  exfalso
  rcases h with h | h
  · exact q ((iO_m1 hn).mpr h)
  · exact q2 ((iO_m1 hn).mpr h)
/-- medians are there -/
theorem md_ex (F : FOR g n) (hn : n ≤ 10) {a b e : Nat} (ha : a < n) (hb : b < n) (he : e < n) (h : ds g n a b ≠ none) (h' : ds g n a e ≠ none) : ∃ k, low (md g n a b e) = some k := by
  have G := F.1
  obtain ⟨kb, hkb⟩ := Option.ne_none_iff_exists'.mp h
  obtain ⟨ke, hke⟩ := Option.ne_none_iff_exists'.mp h'
  obtain ⟨m, i, jb, je, hm, m1, m2, m3, m4, m5, m6⟩ := med_ex F hn ha hb he hkb hke
  refine low_ex (k := m) (by omega) ?_
  have hbe : ds g n b e ≠ none := by rw [m6]; intro e; cases e
  have m2' : ds g n b m = some jb := by rw [ds_sy G hn hb hm]; exact m2
  unfold md
  rw [Nat.testBit_and, Nat.testBit_and, Bool.and_eq_true, Bool.and_eq_true, ps_btw G hn ha hb hm h, ps_btw G hn hb he hm hbe, ps_btw G hn ha he hm h']
  refine ⟨⟨decide_eq_true ⟨?_, ?_⟩, decide_eq_true ⟨?_, ?_⟩⟩, decide_eq_true ⟨?_, ?_⟩⟩
  · rw [m1]; intro e; cases e
  · rw [m1, m2, hkb, ← m4]; exact nI_add i jb
  · rw [m2']; intro e; cases e
  · rw [m2', m3, m6]; exact nI_add jb je
  · rw [m1]; intro e; cases e
  · rw [m1, m3, hke, ← m5]; exact nI_add i je
end
