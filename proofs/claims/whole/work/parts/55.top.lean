/-! the class's face: the object 0 -/
def x0L : List Value := [.ref 1, .ref 9, .ref 11, .ref 14, .ref 17, .ref 19, .ref 27, .ref 31, .ref 55, .ref 69]
/-- the forest now -/
def NB (c : Nat → List Value) (n : Nat) (g w : Nat → Nat) : Prop := c 0 = x0L ∧ c 11 = [.ref 12, .ref 13, .int (nI n)] ∧ c 12 = ar 10 (fun i => nI (g i)) ∧ c 13 = ar 10 (fun i => nI (w i)) ∧ 1 ≤ n ∧ n ≤ 10 ∧ ∀ i, g i < 2 ^ n
section
variable {d n : Nat} {c : Nat → List Value} {g w : Nat → Nat}
theorem NB.O (N : NB c n g w) : (hp c)[0]? = some (9, x0L) := hp_is 0 9 N.1 (by decide) (by decide)
theorem NB.le (N : NB c n g w) : n ≤ 10 := N.2.2.2.2.2.1
theorem NB.one (N : NB c n g w) : 1 ≤ n := N.2.2.2.2.1
theorem NB.g2 (N : NB c n g w) : ∀ i, g i < 2 ^ n := N.2.2.2.2.2.2
theorem NB.F (N : NB c n g w) : FO (hp c) 11 12 13 n g w := hp_fo 11 12 13 N.2.1 N.2.2.1 N.2.2.2.1 (by decide) N.le (fun i => Nat.lt_of_lt_of_le (N.g2 i) (pow_le10 N.le)) (by decide) (by decide) (by decide)
/-- a place that is none of these changes -/
theorem NB.off (N : NB c n g w) {i : Nat} {v : List Value} (h : i ≠ 0 ∧ i ≠ 11 ∧ i ≠ 12 ∧ i ≠ 13) : NB (up1 c i v) n g w :=
  ⟨by rw [up1_ne _ _ (Ne.symm h.1)]; exact N.1, by rw [up1_ne _ _ (Ne.symm h.2.1)]; exact N.2.1, by rw [up1_ne _ _ (Ne.symm h.2.2.1)]; exact N.2.2.1, by rw [up1_ne _ _ (Ne.symm h.2.2.2)]; exact N.2.2.2.1, N.2.2.2.2⟩
theorem NB.near (N : NB c n g w) {g' : Nat → Nat} (hg : ∀ i, g' i < 2 ^ n) : NB (up1 c 12 (ar 10 (fun i => nI (g' i)))) n g' w :=
  ⟨by rw [up1_ne _ _ (by decide)]; exact N.1, by rw [up1_ne _ _ (by decide)]; exact N.2.1, up1_same _ _ _, by rw [up1_ne _ _ (by decide)]; exact N.2.2.2.1, N.one, N.le, hg⟩
theorem NB.wei (N : NB c n g w) {w' : Nat → Nat} : NB (up1 c 13 (ar 10 (fun i => nI (w' i)))) n g w' :=
  ⟨by rw [up1_ne _ _ (by decide)]; exact N.1, by rw [up1_ne _ _ (by decide)]; exact N.2.1, by rw [up1_ne _ _ (by decide)]; exact N.2.2.1, up1_same _ _ _, N.2.2.2.2⟩
theorem s_needVertex (N : NB c n g w) {v : Nat} (hv : v < n) : MSE m_X9_needVertex (d + 1) [.ref 0, .int (nI v)] (hp c) none (hp c) :=
  e_X9_needVertex (b_X9_needVertex_0 N.O rfl N.F.1 (s_isVertex N.F hv) (fun _ => b_X9_needVertex_22 ⟨rfl, rfl⟩) (fun q => absurd q (by decide)))
theorem s_needVertexX (N : NB c n g w) {x : Int32} (hx : ∀ v, v < n → x ≠ nI v) : MSX m_X9_needVertex (d + 1) [.ref 0, .int x] (hp c) 1 (hp c) :=
  e_X9_needVertex (b_X9_needVertex_0 N.O rfl N.F.1 (s_isVertex0 N.F hx) (fun q => absurd rfl q) (fun _ => b_X9_needVertex_11 ⟨rfl, rfl⟩))
theorem s_neededComponent (N : NB c n g w) {x : Int32} (h : cs g n x ≠ 0) : MSE m_X9_neededComponent (d + 5) [.ref 0, .int x] (hp c) (some (.int (nI (cs g n x)))) (hp c) := by
  have := cs_lt (x := x) N.F.2.2.2.2.2 N.le
  exact e_X9_neededComponent (b_X9_neededComponent_0 N.O rfl N.F.1 (s_componentSet N.F) (fun _ => b_X9_neededComponent_24 ⟨rfl, rfl⟩) (fun q => absurd ((i_eq0 (by omega)).mp q) h))
theorem s_neededComponentX (N : NB c n g w) {x : Int32} (h : cs g n x = 0) : MSX m_X9_neededComponent (d + 5) [.ref 0, .int x] (hp c) 1 (hp c) := by
  have e := s_componentSet (d := d) N.F (x := x)
  rw [h] at e
  exact e_X9_neededComponent (b_X9_neededComponent_0 N.O rfl N.F.1 e (fun q => absurd rfl q) (fun _ => b_X9_neededComponent_13 ⟨rfl, rfl⟩))
theorem s_needTree (N : NB c n g w) (h : n - ed g n = 1) (he : ed g n ≤ n) : MSE m_X9_needTree (d + 3) [.ref 0] (hp c) none (hp c) := by
  have e := s_components (d := d) N.F he
  rw [h] at e
  exact e_X9_needTree (b_X9_needTree_0 N.O rfl N.F.1 e (fun _ => b_X9_needTree_22 ⟨rfl, rfl⟩) (fun q => absurd rfl q))
theorem s_needTreeX (N : NB c n g w) (h : n - ed g n ≠ 1) (he : ed g n ≤ n) : MSX m_X9_needTree (d + 3) [.ref 0] (hp c) 3 (hp c) := by
  have hn := N.le
  exact e_X9_needTree (b_X9_needTree_0 N.O rfl N.F.1 (s_components (d := d) N.F he) (fun q => absurd ((i_eq (b := 1) (by omega) (by decide)).mp q) h) (fun _ => b_X9_needTree_11 ⟨rfl, rfl⟩))
theorem s_needSnapshot {h : ab_H} {s : Nat} (hs : s < 3) : MSE m_X9_needSnapshot d [.int (nI s)] h none h :=
  e_X9_needSnapshot (b_X9_needSnapshot_0 (fun q => absurd q (nI_pos (by omega))) (fun _ => b_X9_needSnapshot_4 (fun _ => b_X9_needSnapshot_20 ⟨rfl, rfl⟩) (fun q => absurd (nI_lt (b := 3) hs (by decide)) q)))
theorem s_needSnapshotX {h : ab_H} {x : Int32} (hx : x < 0 ∨ ¬ x < 3) : MSX m_X9_needSnapshot d [.int x] h 2 h :=
  e_X9_needSnapshot (b_X9_needSnapshot_0 (fun _ => b_X9_needSnapshot_9 ⟨rfl, rfl⟩) (fun q => b_X9_needSnapshot_4 (fun q2 => by rcases hx with h1 | h1 <;> contradiction) (fun _ => b_X9_needSnapshot_9 ⟨rfl, rfl⟩)))
/-! distances, paths -/
theorem t_distance (N : NB c n g w) {u v : Nat} (hu : u < n) (hv : v < n) : MSE m_X9_distance (d + 3) [.ref 0, .int (nI u), .int (nI v)] (hp c) (some (.int (iO (ds g n u v)))) (hp c) := by
  have hn := N.le
  exact e_X9_distance (b_X9_distance_0 N.O (s_needVertex N hu) N.O (s_needVertex N hv) N.O rfl N.F.1 (s_steps N.F (by omega) (by omega)) ⟨rfl, rfl⟩)
theorem t_distanceX1 (N : NB c n g w) {x y : Int32} (hx : ∀ v, v < n → x ≠ nI v) : MSX m_X9_distance (d + 3) [.ref 0, .int x, .int y] (hp c) 1 (hp c) :=
  e_X9_distance (bx_X9_distance_0_2 N.O (s_needVertexX N hx) (st_out rfl ⟨rfl, rfl⟩))
theorem t_distanceX2 (N : NB c n g w) {u : Nat} {y : Int32} (hu : u < n) (hy : ∀ v, v < n → y ≠ nI v) : MSX m_X9_distance (d + 3) [.ref 0, .int (nI u), .int y] (hp c) 1 (hp c) :=
  e_X9_distance (bx_X9_distance_0_7 N.O (s_needVertex N hu) N.O (s_needVertexX N hy) (st_out rfl ⟨rfl, rfl⟩))
theorem t_onPath (N : NB c n g w) {u v k : Nat} {x : Int32} (hu : u < n) (hv : v < n) (hk : pv g n u v x = some k) : MSE m_X9_onPath (d + 5) [.ref 0, .int (nI u), .int (nI v), .int x] (hp c) (some (.int (nI k))) (hp c) := by
  have hn := N.le
  have e := s_pathVertex (d := d) N.F (show u < 10 by omega) (show v < 10 by omega) (x := x)
  rw [hk] at e
  have hk2 : k < n := List.mem_range.mp (List.mem_of_find?_eq_some hk)
  exact e_X9_onPath (b_X9_onPath_0 (v12 := nI k) N.O (s_needVertex N hu) N.O (s_needVertex N hv) N.O rfl N.F.1 e (fun _ => b_X9_onPath_38 ⟨rfl, rfl⟩) (fun q => absurd q.symm (m1_ne hn k hk2)))
theorem t_onPathX4 (N : NB c n g w) {u v : Nat} {x : Int32} (hu : u < n) (hv : v < n) (hk : pv g n u v x = none) : MSX m_X9_onPath (d + 5) [.ref 0, .int (nI u), .int (nI v), .int x] (hp c) 4 (hp c) := by
  have hn := N.le
  have e := s_pathVertex (d := d) N.F (show u < 10 by omega) (show v < 10 by omega) (x := x)
  rw [hk] at e
  exact e_X9_onPath (b_X9_onPath_0 N.O (s_needVertex N hu) N.O (s_needVertex N hv) N.O rfl N.F.1 e (fun q => absurd rfl q) (fun _ => b_X9_onPath_28 ⟨rfl, rfl⟩))
theorem t_onPathX1 (N : NB c n g w) {x y z : Int32} (hx : ∀ v, v < n → x ≠ nI v) : MSX m_X9_onPath (d + 5) [.ref 0, .int x, .int y, .int z] (hp c) 1 (hp c) :=
  e_X9_onPath (bx_X9_onPath_0_2 N.O (s_needVertexX N hx) (st_out rfl ⟨rfl, rfl⟩))
theorem t_onPathX2 (N : NB c n g w) {u : Nat} {y z : Int32} (hu : u < n) (hy : ∀ v, v < n → y ≠ nI v) : MSX m_X9_onPath (d + 5) [.ref 0, .int (nI u), .int y, .int z] (hp c) 1 (hp c) :=
  e_X9_onPath (bx_X9_onPath_0_7 N.O (s_needVertex N hu) N.O (s_needVertexX N hy) (st_out rfl ⟨rfl, rfl⟩))
/-- on all three paths -/
def md (g : Nat → Nat) (n a b e : Nat) : Nat := ps g n a b &&& ps g n b e &&& ps g n a e
theorem t_median (N : NB c n g w) {u v e k : Nat} (hu : u < n) (hv : v < n) (he : e < n) (hk : low (md g n u v e) = some k) : MSE m_X9_median (d + 4) [.ref 0, .int (nI u), .int (nI v), .int (nI e)] (hp c) (some (.int (nI k))) (hp c) := by
  have hn := N.le
  have hl : md g n u v e < 1024 := and_lt (and_lt (ps_lt hn))
  have h0 : md g n u v e ≠ 0 := fun q => by
    have := low_bit hk
    rw [q, Nat.zero_testBit] at this; cases this
  have m1 := s_lowest (d := d + 2) (h := hp c) (s := md g n u v e) (by omega)
  rw [hk] at m1
  have e1 : nI (ps g n u v) &&& nI (ps g n v e) &&& nI (ps g n u e) = nI (md g n u v e) := by rw [i_and, i_and]; rfl
  refine e_X9_median (b_X9_median_0 N.O (s_needVertex N hu) N.O (s_needVertex N hv) N.O (s_needVertex N he) N.O rfl N.F.1 (s_pathSet N.F (by omega) (by omega)) N.O rfl N.F.1 (s_pathSet N.F (by omega) (by omega)) N.O rfl N.F.1 (s_pathSet N.F (by omega) (by omega)) (fun _ => ?_) (fun q => ?_))
  · rw [e1]
    exact b_X9_median_61 m1 ⟨rfl, rfl⟩
  · rw [e1] at q
    exact absurd ((i_eq0 (by omega)).mp q) h0
theorem t_medianX4 (N : NB c n g w) {u v e : Nat} (hu : u < n) (hv : v < n) (he : e < n) (hk : md g n u v e = 0) : MSX m_X9_median (d + 4) [.ref 0, .int (nI u), .int (nI v), .int (nI e)] (hp c) 4 (hp c) := by
  have hn := N.le
  have e1 : nI (ps g n u v) &&& nI (ps g n v e) &&& nI (ps g n u e) = nI (md g n u v e) := by rw [i_and, i_and]; rfl
  refine e_X9_median (b_X9_median_0 N.O (s_needVertex N hu) N.O (s_needVertex N hv) N.O (s_needVertex N he) N.O rfl N.F.1 (s_pathSet N.F (by omega) (by omega)) N.O rfl N.F.1 (s_pathSet N.F (by omega) (by omega)) N.O rfl N.F.1 (s_pathSet N.F (by omega) (by omega)) (fun q => ?_) (fun _ => b_X9_median_51 ⟨rfl, rfl⟩))
  rw [e1, hk] at q
  exact absurd rfl q
theorem t_medianX1 (N : NB c n g w) {x y z : Int32} (hx : ∀ v, v < n → x ≠ nI v) : MSX m_X9_median (d + 4) [.ref 0, .int x, .int y, .int z] (hp c) 1 (hp c) :=
  e_X9_median (bx_X9_median_0_2 N.O (s_needVertexX N hx) (st_out rfl ⟨rfl, rfl⟩))
theorem t_medianX2 (N : NB c n g w) {u : Nat} {y z : Int32} (hu : u < n) (hy : ∀ v, v < n → y ≠ nI v) : MSX m_X9_median (d + 4) [.ref 0, .int (nI u), .int y, .int z] (hp c) 1 (hp c) :=
  e_X9_median (bx_X9_median_0_7 N.O (s_needVertex N hu) N.O (s_needVertexX N hy) (st_out rfl ⟨rfl, rfl⟩))
theorem t_medianX3 (N : NB c n g w) {u v : Nat} {z : Int32} (hu : u < n) (hv : v < n) (hz : ∀ v, v < n → z ≠ nI v) : MSX m_X9_median (d + 4) [.ref 0, .int (nI u), .int (nI v), .int z] (hp c) 1 (hp c) :=
  e_X9_median (bx_X9_median_0_12 N.O (s_needVertex N hu) N.O (s_needVertex N hv) N.O (s_needVertexX N hz) (st_out rfl ⟨rfl, rfl⟩))
/-- the sum of the distances to the first k vertices of a set -/
def dsm (g : Nat → Nat) (n v s : Nat) : Nat → Int32
  | 0 => 0
  | k + 1 => if s.testBit k = true then dsm g n v s k + iO (ds g n v k) else dsm g n v s k
theorem t_meanDistance (N : NB c n g w) {v : Nat} (hv : v < n) (hc : pc (comp g n v) ≠ 0) (hz : vf_n64 (FP.ddiv (FP.i2d (dsm g n v (comp g n v) n)) (FP.i2d (nI (pc (comp g n v)))))) : MSE m_X9_meanDistance (d + 4) [.ref 0, .int (nI v)] (hp c) (some (.double (FP.ddiv (FP.i2d (dsm g n v (comp g n v) n)) (FP.i2d (nI (pc (comp g n v))))))) (hp c) := by
  have hn := N.le
  have hcm : comp g n v < 1024 := rc_lt N.F.2.2.2.2.2 (by omega)
  have hpl := pc_le (comp g n v)
  refine e_X9_meanDistance (b_X9_meanDistance_0 N.O (s_needVertex N hv) N.O rfl N.F.1 (s_componentWith N.F (by omega)) ?_)
  refine up_all (n := n) (T := fun k => a_X9_meanDistance_19 (d + 4) 0 0 0 (nI v) (nI (comp g n v)) (dsm g n v (comp g n v) k) (nI k) (hp c) (fun o k => o = .inl (some (.double (FP.ddiv (FP.i2d (dsm g n v (comp g n v) n)) (FP.i2d (nI (pc (comp g n v))))))) ∧ k = hp c)) (fun k hk ih => ?_) ?_
  · have ih : a_X9_meanDistance_19 (d + 4) 0 0 0 (nI v) (nI (comp g n v)) (dsm g n v (comp g n v) (k + 1)) (nI (k + 1)) (hp c) (fun o k => o = .inl (some (.double (FP.ddiv (FP.i2d (dsm g n v (comp g n v) n)) (FP.i2d (nI (pc (comp g n v))))))) ∧ k = hp c) := ih
    refine b_X9_meanDistance_19 N.O rfl N.F.1 rfl (fun q => absurd q (nI_ge hk (by omega))) (fun _ => b_X9_meanDistance_31 (s_holds (by omega) (by omega)) (fun q => b_X9_meanDistance_53 ?_) (fun q => b_X9_meanDistance_40 N.O rfl N.F.1 (s_steps N.F (by omega) (by omega)) (b_X9_meanDistance_53 ?_)))
    · rw [nI_1]
      have e : dsm g n v (comp g n v) (k + 1) = dsm g n v (comp g n v) k := if_neg (by rw [h01.mp q]; decide)
      rw [e] at ih; exact ih
    · rw [nI_1]
      have e : dsm g n v (comp g n v) (k + 1) = dsm g n v (comp g n v) k + iO (ds g n v k) := if_pos (tb_of q)
      rw [e] at ih; exact ih
  · exact b_X9_meanDistance_19 N.O rfl N.F.1 rfl (fun _ => b_X9_meanDistance_59 (s_bitCount hcm) (fun _ => b_X9_meanDistance_74 hz (b_X9_meanDistance_80 ⟨rfl, rfl⟩)) (fun q => absurd ((i_eq0 (by omega)).mp q) hc)) (fun q => absurd (nI_le (Nat.le_refl n) (by omega)) q)
theorem t_meanDistanceX (N : NB c n g w) {x : Int32} (hx : ∀ v, v < n → x ≠ nI v) : MSX m_X9_meanDistance (d + 4) [.ref 0, .int x] (hp c) 1 (hp c) :=
  e_X9_meanDistance (bx_X9_meanDistance_0_2 N.O (s_needVertexX N hx) (st_out rfl ⟨rfl, rfl⟩))
theorem t_balance (N : NB c n g w) {v : Nat} (hv : v < n) (hw : ∀ i, w i ≤ 99) (hc : pc (comp g n v) ≠ 0) (hz : vf_n32 (FP.fdiv (FP.i2f (nI (gp g w n v false))) (FP.i2f (nI (pc (comp g n v)))))) : MSE m_X9_balance (d + 4) [.ref 0, .int (nI v)] (hp c) (some (.float (FP.fdiv (FP.i2f (nI (gp g w n v false))) (FP.i2f (nI (pc (comp g n v))))))) (hp c) := by
  have hn := N.le
  have hcm : comp g n v < 1024 := rc_lt N.F.2.2.2.2.2 (by omega)
  have hpl := pc_le (comp g n v)
  exact e_X9_balance (b_X9_balance_0 N.O (s_needVertex N hv) N.O rfl N.F.1 (s_componentWith N.F (by omega)) (s_bitCount hcm) (fun _ => b_X9_balance_25 N.O rfl N.F.1 (s_greatestPart (bb := false) N.F hv hw) hz (b_X9_balance_38 ⟨rfl, rfl⟩)) (fun q => absurd ((i_eq0 (by omega)).mp q) hc))
theorem t_balanceX (N : NB c n g w) {x : Int32} (hx : ∀ v, v < n → x ≠ nI v) : MSX m_X9_balance (d + 4) [.ref 0, .int x] (hp c) 1 (hp c) :=
  e_X9_balance (bx_X9_balance_0_2 N.O (s_needVertexX N hx) (st_out rfl ⟨rfl, rfl⟩))
end
