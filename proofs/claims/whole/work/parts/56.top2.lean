/-! words in the heap of the law: the objects 19 and 45 -/
def wA (b i : Nat) : Nat := if i < 5 then b + 1 + i else b + 7
def WX (b : Nat) (c : Nat → List Value) (k : Nat) (V : Nat → Nat) (W : Nat → Nat → Int32) : Prop :=
  c b = [.ref (b + 1), .ref (b + 2), .ref (b + 3), .ref (b + 4), .ref (b + 5), .ref (b + 6)] ∧ c (b + 6) = [.ref (b + 7), .int (nI k)] ∧ k ≤ 10 ∧ (∀ i, i < 6 → c (wA b i) = ar 10 (W i)) ∧ (W 0 = fun i => nI (V i)) ∧ ∀ i, V i < 1024
def cW (b : Nat) (c : Nat → List Value) (k : Nat) (W : Nat → Nat → Int32) : Nat → List Value := up1 (up1 (up1 (up1 (up1 (up1 (up1 c (b + 6) [.ref (b + 7), .int (nI k)]) (b + 1) (ar 10 (W 0))) (b + 2) (ar 10 (W 1))) (b + 3) (ar 10 (W 2))) (b + 4) (ar 10 (W 3))) (b + 5) (ar 10 (W 4))) (b + 7) (ar 10 (W 5))
theorem wA_lt {b : Nat} (hb : b = 19 ∨ b = 45) : ∀ i, i < 6 → wA b i < 84 ∧ kd (wA b i) = 100 := by
  rcases hb with rfl | rfl <;> decide
theorem wA_inj {b : Nat} (hb : b = 19 ∨ b = 45) : ∀ i j, i < 6 → j < 6 → wA b i = wA b j → i = j := by
  intro i j hi hj h
  unfold wA at h
  split at h <;> split at h <;> omega
theorem WX.D {b : Nat} {c : Nat → List Value} {k : Nat} {V : Nat → Nat} {W : Nat → Nat → Int32} (hb : b = 19 ∨ b = 45) (X : WX b c k V W) : WD (hp c) b (wA b) (b + 6) k V W := by
  obtain ⟨x1, x2, x3, x4, x5, x6⟩ := X
  refine ⟨hp_is b 8 x1 (by omega) (by rcases hb with rfl | rfl <;> decide), hp_is (b + 6) 4 x2 (by omega) (by rcases hb with rfl | rfl <;> decide), x3, fun i hi => ?_, wA_inj hb, x5, x6⟩
  exact hp_is (wA b i) 100 (x4 i hi) (wA_lt hb i hi).1 (wA_lt hb i hi).2
theorem hW_hp {b : Nat} {c : Nat → List Value} {k : Nat} {W : Nat → Nat → Int32} (hb : b = 19 ∨ b = 45) : hW (hp c) (wA b) (b + 6) k W = hp (cW b c k W) := by
  rcases hb with rfl | rfl
  · show (((((((hp c).set 25 (4, [.ref 26, .int (nI k)])).set 20 (100, ar 10 (W 0))).set 21 (100, ar 10 (W 1))).set 22 (100, ar 10 (W 2))).set 23 (100, ar 10 (W 3))).set 24 (100, ar 10 (W 4))).set 26 (100, ar 10 (W 5)) = _
    rw [hp_set (by decide) (by decide), hp_set (by decide) (by decide), hp_set (by decide) (by decide), hp_set (by decide) (by decide), hp_set (by decide) (by decide), hp_set (by decide) (by decide), hp_set (by decide) (by decide)]
    rfl
  · show (((((((hp c).set 51 (4, [.ref 52, .int (nI k)])).set 46 (100, ar 10 (W 0))).set 47 (100, ar 10 (W 1))).set 48 (100, ar 10 (W 2))).set 49 (100, ar 10 (W 3))).set 50 (100, ar 10 (W 4))).set 52 (100, ar 10 (W 5)) = _
    rw [hp_set (by decide) (by decide), hp_set (by decide) (by decide), hp_set (by decide) (by decide), hp_set (by decide) (by decide), hp_set (by decide) (by decide), hp_set (by decide) (by decide), hp_set (by decide) (by decide)]
    rfl
/-- places that words don't change -/
theorem cW_ne {b : Nat} {c : Nat → List Value} {k : Nat} {W : Nat → Nat → Int32} {i : Nat} (h : i ≤ b ∨ b + 7 < i) : cW b c k W i = c i := by
  unfold cW
  rw [up1_ne _ _ (by omega), up1_ne _ _ (by omega), up1_ne _ _ (by omega), up1_ne _ _ (by omega), up1_ne _ _ (by omega), up1_ne _ _ (by omega), up1_ne _ _ (by omega)]
theorem cW_WX {b : Nat} {c : Nat → List Value} {k k' : Nat} {V V' : Nat → Nat} {W W' : Nat → Nat → Int32} (X : WX b c k V W) (hk : k' ≤ 10) (h : wsOk (V', W')) : WX b (cW b c k' W') k' V' W' := by
  refine ⟨(cW_ne (Or.inl (Nat.le_refl _))).trans X.1, ?_, hk, fun i hi => ?_, h.1, h.2⟩
  · unfold cW
    rw [up1_ne _ _ (by omega), up1_ne _ _ (by omega), up1_ne _ _ (by omega), up1_ne _ _ (by omega), up1_ne _ _ (by omega), up1_ne _ _ (by omega), up1_same]
  · have e : i = 0 ∨ i = 1 ∨ i = 2 ∨ i = 3 ∨ i = 4 ∨ i = 5 := by omega
    unfold cW wA
    rcases e with rfl | rfl | rfl | rfl | rfl | rfl
    · show up1 _ _ _ (b + 1) = _
      rw [up1_ne _ _ (by omega), up1_ne _ _ (by omega), up1_ne _ _ (by omega), up1_ne _ _ (by omega), up1_ne _ _ (by omega), up1_same]
    · show up1 _ _ _ (b + 1 + 1) = _
      rw [up1_ne _ _ (by omega), up1_ne _ _ (by omega), up1_ne _ _ (by omega), up1_ne _ _ (by omega), up1_same]
    · show up1 _ _ _ (b + 1 + 2) = _
      rw [up1_ne _ _ (by omega), up1_ne _ _ (by omega), up1_ne _ _ (by omega), up1_same]
    · show up1 _ _ _ (b + 1 + 3) = _
      rw [up1_ne _ _ (by omega), up1_ne _ _ (by omega), up1_same]
    · show up1 _ _ _ (b + 1 + 4) = _
      rw [up1_ne _ _ (by omega), up1_same]
    · exact up1_same _ _ _
theorem ap19 : apart 11 12 13 25 (wA 19) := by
  intro i hi
  unfold wA
  split <;> omega
section
variable {d n k : Nat} {c : Nat → List Value} {g w : Nat → Nat} {V : Nat → Nat} {W : Nat → Nat → Int32}
theorem NB.wds (N : NB c n g w) {k' : Nat} {W' : Nat → Nat → Int32} : NB (cW 19 c k' W') n g w :=
  ⟨by rw [cW_ne (by omega)]; exact N.1, by rw [cW_ne (by omega)]; exact N.2.1, by rw [cW_ne (by omega)]; exact N.2.2.1, by rw [cW_ne (by omega)]; exact N.2.2.2.1, N.2.2.2.2⟩
/-! forest(what) -/
theorem t_forest0 (N : NB c n g w) : MSE m_X9_forest d [.ref 0, .int 0] (hp c) (some (.int (nI n))) (hp c) :=
  e_X9_forest (b_X9_forest_0 (fun _ => b_X9_forest_52 N.O rfl N.F.1 rfl ⟨rfl, rfl⟩) (fun q => absurd q (by decide)) (fun q => absurd q (by decide)) (fun q => absurd q (by decide)) (fun q => absurd q (by decide)) (fun q => absurd q (by decide)) (fun q => absurd q (by decide)) (fun q => absurd q (by decide)) (fun q => absurd q (by decide)) (fun q => absurd rfl (q 0 (by decide))))
theorem t_forest1 (N : NB c n g w) : MSE m_X9_forest (d + 2) [.ref 0, .int 1] (hp c) (some (.int (nI (ed g n)))) (hp c) :=
  e_X9_forest (b_X9_forest_0 (fun q => absurd q (by decide)) (fun _ => b_X9_forest_60 N.O rfl N.F.1 (s_edges N.F) ⟨rfl, rfl⟩) (fun q => absurd q (by decide)) (fun q => absurd q (by decide)) (fun q => absurd q (by decide)) (fun q => absurd q (by decide)) (fun q => absurd q (by decide)) (fun q => absurd q (by decide)) (fun q => absurd q (by decide)) (fun q => absurd rfl (q 1 (by decide))))
theorem t_forest2 (N : NB c n g w) (he : ed g n ≤ n) : MSE m_X9_forest (d + 3) [.ref 0, .int 2] (hp c) (some (.int (nI (n - ed g n)))) (hp c) :=
  e_X9_forest (b_X9_forest_0 (fun q => absurd q (by decide)) (fun q => absurd q (by decide)) (fun _ => b_X9_forest_68 N.O rfl N.F.1 (s_components N.F he) ⟨rfl, rfl⟩) (fun q => absurd q (by decide)) (fun q => absurd q (by decide)) (fun q => absurd q (by decide)) (fun q => absurd q (by decide)) (fun q => absurd q (by decide)) (fun q => absurd q (by decide)) (fun q => absurd rfl (q 2 (by decide))))
theorem t_forest3 (N : NB c n g w) : MSE m_X9_forest (d + 3) [.ref 0, .int 3] (hp c) (some (.int (nI (pc (lv g n))))) (hp c) :=
  e_X9_forest (b_X9_forest_0 (fun q => absurd q (by decide)) (fun q => absurd q (by decide)) (fun q => absurd q (by decide)) (fun _ => b_X9_forest_76 N.O rfl N.O rfl N.F.1 (s_all N.F) N.F.1 (s_countOfDegree (k0 := 1) N.F (al_lt N.le) (by decide)) ⟨rfl, rfl⟩) (fun q => absurd q (by decide)) (fun q => absurd q (by decide)) (fun q => absurd q (by decide)) (fun q => absurd q (by decide)) (fun q => absurd q (by decide)) (fun q => absurd rfl (q 3 (by decide))))
theorem t_forest4 (N : NB c n g w) : MSE m_X9_forest (d + 3) [.ref 0, .int 4] (hp c) (some (.int (nI (pc (stU (fun v => (al n).testBit v && decide (pc (g v) = 0)) n))))) (hp c) :=
  e_X9_forest (b_X9_forest_0 (fun q => absurd q (by decide)) (fun q => absurd q (by decide)) (fun q => absurd q (by decide)) (fun q => absurd q (by decide)) (fun _ => b_X9_forest_92 N.O rfl N.O rfl N.F.1 (s_all N.F) N.F.1 (s_countOfDegree (k0 := 0) N.F (al_lt N.le) (by decide)) ⟨rfl, rfl⟩) (fun q => absurd q (by decide)) (fun q => absurd q (by decide)) (fun q => absurd q (by decide)) (fun q => absurd q (by decide)) (fun q => absurd rfl (q 4 (by decide))))
theorem t_forest5 (N : NB c n g w) (hw : ∀ i, w i ≤ 99) : MSE m_X9_forest (d + 3) [.ref 0, .int 5] (hp c) (some (.int (nI (smU (al n) w n)))) (hp c) :=
  e_X9_forest (b_X9_forest_0 (fun q => absurd q (by decide)) (fun q => absurd q (by decide)) (fun q => absurd q (by decide)) (fun q => absurd q (by decide)) (fun q => absurd q (by decide)) (fun _ => b_X9_forest_108 N.O rfl N.O rfl N.F.1 (s_all N.F) N.F.1 (s_weightOfSet N.F (al_lt N.le) hw) ⟨rfl, rfl⟩) (fun q => absurd q (by decide)) (fun q => absurd q (by decide)) (fun q => absurd q (by decide)) (fun q => absurd rfl (q 5 (by decide))))
theorem t_forest6 (N : NB c n g w) (X : WX 19 c k V W) {K : Nat} (he : ed g n + (K + 1) = n) (hk0 : csOk g n (K + 1)) : MSE m_X9_forest (d + 6) [.ref 0, .int 6] (hp c) (some (.int (nI (clU g n (V, W) (K + 1)).2.1))) (hp (cW 19 c (clU g n (V, W) (K + 1)).2.1 (clU g n (V, W) (K + 1)).1.2)) := by
  have hn := N.le
  have D := X.D (Or.inl rfl)
  have hb : 1 ≤ n := N.one
  have e := s_components (d := d + 3) N.F (show ed g n ≤ n by omega)
  rw [show n - ed g n = K + 1 by omega] at e
  have m1 := s_classOf (d := d) N.F D ap19 (K := K) (by omega) hk0
  rw [hW_hp (Or.inl rfl)] at m1
  have X2 : WX 19 (cW 19 c (clU g n (V, W) (K + 1)).2.1 (clU g n (V, W) (K + 1)).1.2) (clU g n (V, W) (K + 1)).2.1 (clU g n (V, W) (K + 1)).1.1 (clU g n (V, W) (K + 1)).1.2 := by
    obtain ⟨k1, k2⟩ := clU_ok N.F.2.2.2.2.2 hn D.S hk0 (K + 1) (Nat.le_refl _)
    exact cW_WX X (by omega) k1
  refine e_X9_forest (b_X9_forest_0 (fun q => absurd q (by decide)) (fun q => absurd q (by decide)) (fun q => absurd q (by decide)) (fun q => absurd q (by decide)) (fun q => absurd q (by decide)) (fun q => absurd q (by decide)) (fun _ => b_X9_forest_123 N.O rfl N.O rfl N.O rfl N.F.1 e D.1 (by rw [nI_pred]; exact m1) N.wds.O rfl (X2.D (Or.inl rfl)).1 rfl (X2.D (Or.inl rfl)).2.1 rfl ⟨rfl, rfl⟩) (fun q => absurd q (by decide)) (fun q => absurd q (by decide)) (fun q => absurd rfl (q 6 (by decide))))
theorem t_forest7 {nx ch kp : Nat} (N : NB c n g w) (h1 : c 55 = paL nx ch kp) : MSE m_X9_forest d [.ref 0, .int 7] (hp c) (some (.int (nI kp))) (hp c) :=
  e_X9_forest (b_X9_forest_0 (fun q => absurd q (by decide)) (fun q => absurd q (by decide)) (fun q => absurd q (by decide)) (fun q => absurd q (by decide)) (fun q => absurd q (by decide)) (fun q => absurd q (by decide)) (fun q => absurd q (by decide)) (fun _ => b_X9_forest_155 N.O rfl (hp_is 55 5 h1 (by decide) (by decide)) rfl ⟨rfl, rfl⟩) (fun q => absurd q (by decide)) (fun q => absurd rfl (q 7 (by decide))))
theorem t_forest8 {nx ch kp : Nat} (N : NB c n g w) (h1 : c 55 = paL nx ch kp) : MSE m_X9_forest d [.ref 0, .int 8] (hp c) (some (.int (nI ch))) (hp c) :=
  e_X9_forest (b_X9_forest_0 (fun q => absurd q (by decide)) (fun q => absurd q (by decide)) (fun q => absurd q (by decide)) (fun q => absurd q (by decide)) (fun q => absurd q (by decide)) (fun q => absurd q (by decide)) (fun q => absurd q (by decide)) (fun q => absurd q (by decide)) (fun _ => b_X9_forest_163 N.O rfl (hp_is 55 5 h1 (by decide) (by decide)) rfl ⟨rfl, rfl⟩) (fun q => absurd rfl (q 8 (by decide))))
theorem t_forest9 {x : Int32} (hx : ∀ i : Nat, i < 9 → ¬ x = Int32.ofNat i) : MSE m_X9_forest d [.ref 0, .int x] (hp c) (some (.int (-1))) (hp c) :=
  e_X9_forest (b_X9_forest_0 (fun q => absurd q (hx 0 (by decide))) (fun q => absurd q (hx 1 (by decide))) (fun q => absurd q (hx 2 (by decide))) (fun q => absurd q (hx 3 (by decide))) (fun q => absurd q (hx 4 (by decide))) (fun q => absurd q (hx 5 (by decide))) (fun q => absurd q (hx 6 (by decide))) (fun q => absurd q (hx 7 (by decide))) (fun q => absurd q (hx 8 (by decide))) (fun _ => b_X9_forest_171 ⟨rfl, rfl⟩))
/-! rounds of pruning -/
def dlI (g : Nat → Nat) (n : Nat) : Nat → (Nat → Nat)
  | 0 => g
  | k + 1 => dl (dlI g n k) n
theorem dlI_lt {g : Nat → Nat} {n : Nat} (hg : ∀ i, g i < 2 ^ n) : ∀ k i, dlI g n k i < 2 ^ n
  | 0 => hg
  | k + 1 => dlU_lt (dlI_lt hg k) n
/-- the forest that is pruned -/
def PB (c : Nat → List Value) (n : Nat) (g w : Nat → Nat) : Prop := c 14 = [.ref 15, .ref 16, .int (nI n)] ∧ c 15 = ar 10 (fun i => nI (g i)) ∧ c 16 = ar 10 (fun i => nI (w i)) ∧ n ≤ 10 ∧ ∀ i, g i < 1024
theorem PB.F (B : PB c n g w) : FO (hp c) 14 15 16 n g w := hp_fo 14 15 16 B.1 B.2.1 B.2.2.1 (by decide) B.2.2.2.1 B.2.2.2.2 (by decide) (by decide) (by decide)
def cPr (c : Nat → List Value) (n : Nat) (g w : Nat → Nat) : Nat → List Value := up1 (up1 (up1 c 14 [.ref 15, .ref 16, .int (nI n)]) 15 (ar 10 (fun i => nI (g i)))) 16 (ar 10 (fun i => nI (w i)))
theorem cPr_ne {i : Nat} (h : i ≠ 14 ∧ i ≠ 15 ∧ i ≠ 16) : cPr c n g w i = c i := by
  unfold cPr
  rw [up1_ne _ _ h.2.2, up1_ne _ _ h.2.1, up1_ne _ _ h.1]
theorem cPr_PB (hn : n ≤ 10) (hg : ∀ i, g i < 1024) : PB (cPr c n g w) n g w := ⟨rfl, rfl, rfl, hn, hg⟩
theorem NB.pr (N : NB c n g w) {n' : Nat} {g' w' : Nat → Nat} : NB (cPr c n' g' w') n g w :=
  ⟨by rw [cPr_ne (by decide)]; exact N.1, by rw [cPr_ne (by decide)]; exact N.2.1, by rw [cPr_ne (by decide)]; exact N.2.2.1, by rw [cPr_ne (by decide)]; exact N.2.2.2.1, N.2.2.2.2⟩
theorem t_roundOf {n' : Nat} {g' w' : Nat → Nat} (N : NB c n g w) (B : PB c n' g' w') {v r : Nat} (hv : v < n) (hr : r < 10) (h1 : ∀ j, j < r → pc (dlI g n j v) ≠ 0) (h2 : pc (dlI g n r v) = 0) : MSE m_X9_roundOf (d + 3) [.ref 0, .int (nI v)] (hp c) (some (.int (nI r))) (hp (cPr c n (dlI g n r) w)) := by
  have hn := N.le
  have hlt : ∀ k i, dlI g n k i < 1024 := fun k i => Nat.lt_of_lt_of_le (dlI_lt N.g2 k i) (pow_le10 hn)
  have e0 : (((hp c).set 14 (3, [.ref 15, .ref 16, .int (nI n)])).set 15 (100, ar 10 (fun i => nI (g i)))).set 16 (100, ar 10 (fun i => nI (w i))) = hp (cPr c n (dlI g n 0) w) := by
    rw [hp_set (by decide) (by decide), hp_set (by decide) (by decide), hp_set (by decide) (by decide)]; rfl
  have m0 := s_copy (d := d + 2) B.F N.F (by decide) (by decide) (by decide) (by decide) (by decide)
  rw [e0] at m0
  refine e_X9_roundOf (b_X9_roundOf_0 N.O rfl N.O rfl B.F.1 m0 ?_)
  refine up_all (n := r) (T := fun k => a_X9_roundOf_13 (d + 3) 0 0 0 (nI v) (nI k) (hp (cPr c n (dlI g n k) w)) (rI (nI r) (hp (cPr c n (dlI g n r) w)))) (fun k hk ih => ?_) ?_
  · have B2 : PB (cPr c n (dlI g n k) w) n (dlI g n k) w := cPr_PB hn (hlt k)
    have m2 := s_dropLeaves (d := d) B2.F (dlI_lt N.g2 k)
    have hpl := pc_le (dlI g n k v)
    have e1 : (hp (cPr c n (dlI g n k) w)).set 15 (100, ar 10 (fun i => nI (dl (dlI g n k) n i))) = hp (cPr c n (dlI g n (k + 1)) w) := by
      rw [hp_set (by decide) (by decide)]
      unfold cPr
      rw [up1_cm (i := 16) (j := 15) (by decide), up1_up1]; rfl
    rw [e1] at m2
    refine b_X9_roundOf_13 (fun q => absurd q (nI_ge (a := k) (b := 10) (by omega) (by decide))) (fun _ => b_X9_roundOf_19 N.pr.O rfl B2.F.1 (s_degree B2.F (by omega)) (fun q => absurd ((i_eq0 (by omega)).mp q) (h1 k hk)) (fun _ => b_X9_roundOf_30 N.pr.O rfl B2.F.1 m2 ?_))
    rw [nI_1]; exact ih
  · have B2 : PB (cPr c n (dlI g n r) w) n (dlI g n r) w := cPr_PB hn (hlt r)
    have m3 := s_degree (d := d + 1) B2.F (show v < 10 by omega)
    rw [h2] at m3
    exact b_X9_roundOf_13 (fun q => absurd q (nI_ge (a := r) (b := 10) hr (by decide))) (fun _ => b_X9_roundOf_19 N.pr.O rfl B2.F.1 m3 (fun _ => b_X9_roundOf_43 ⟨rfl, rfl⟩) (fun q => absurd rfl q))
end
