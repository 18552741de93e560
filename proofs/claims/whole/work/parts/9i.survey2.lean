section
variable {d m n t k : Nat} {c c' : Nat → List Value} {z : Nat → Int32} {g w : Nat → Nat} {x y : Int32}
/-! how many words; the survey of the class -/
theorem cnU_none {P : Nat → Bool} : ∀ k, (∀ i, i < k → P i = false) → cnU P k = 0
  | 0, _ => rfl
  | k + 1, h => by
    rw [cnU_s, if_neg (by rw [h k (by omega)]; decide)]
    exact cnU_none k (fun i hi => h i (by omega))
theorem cnU_le1 {P : Nat → Bool} : ∀ k, (∀ i j, i < k → j < k → P i = true → P j = true → i = j) → cnU P k ≤ 1
  | 0, _ => Nat.zero_le _
  | k + 1, h => by
    rw [cnU_s]
    by_cases hp' : P k = true
    · rw [if_pos hp', cnU_none k (fun i hi => by
        cases e : P i with
        | false => rfl
        | true => have := h i k (by omega) (by omega) e hp'; omega)]
      exact Nat.le_refl 1
    · rw [if_neg hp']
      exact cnU_le1 k (fun i j hi hj => h i j (by omega) (by omega))
theorem cn_list {V : Nat → Nat} : ∀ (L : List Nat) (P : Nat → Bool) (k : Nat), (∀ i, P i = true → nwB V i = true) → (∀ i, i < k → P i = true → V i ∈ L) → cnU P k ≤ L.length
  | [], P, k, _, h => by
    rw [cnU_none k (fun i hi => by
      cases e : P i with
      | false => rfl
      | true => have := h i hi e; cases this)]
    exact Nat.zero_le _
  | x :: L, P, k, hn, h => by
    have s := cnU_split (P := P) (Q := fun i => P i && decide (V i = x)) (R := fun i => P i && decide (V i ≠ x)) k (fun i hi => by
      by_cases e : V i = x <;> simp [e])
    have a := cnU_le1 (P := fun i => P i && decide (V i = x)) k (fun i j hi hj p q => by
      simp only [Bool.and_eq_true, decide_eq_true_eq] at p q
      rcases Nat.lt_trichotomy i j with h | h | h
      · exact absurd (p.2.trans q.2.symm) (nwB_iff.mp (hn j q.1) i h)
      · exact h
      · exact absurd (q.2.trans p.2.symm) (nwB_iff.mp (hn i p.1) j h))
    have b := cn_list L (fun i => P i && decide (V i ≠ x)) k (fun i p => hn i (by simp only [Bool.and_eq_true] at p; exact p.1)) (fun i hi p => by
      simp only [Bool.and_eq_true, decide_eq_true_eq] at p
      rcases List.mem_cons.mp (h i hi p.1) with e | e
      · exact absurd e p.2
      · exact e)
    rw [s, List.length_cons]
    omega
theorem svB (h1 : 1 ≤ m) (hm : m ≤ 6) {k : Nat} (hk : k ≤ m ^ (m - 2)) : cnU (nwB (svV m)) k ≤ 6 := by
  have gl : ∀ L : List Nat, (∀ r, r < m ^ (m - 2) → svV m r ∈ L) → cnU (nwB (svV m)) k ≤ L.length := fun L h => cn_list (V := svV m) L (nwB (svV m)) k (fun i p => p) (fun i hi _ => h i (by omega))
  rcases (show m = 1 ∨ m = 2 ∨ m = 3 ∨ m = 4 ∨ m = 5 ∨ m = 6 by omega) with h | h | h | h | h | h <;> subst h
  · have := cnU_le (p := nwB (svV 1)) k
    have hk : k ≤ 1 := hk
    omega
  · have := cnU_le (p := nwB (svV 2)) k
    have hk : k ≤ 1 := hk
    omega
  · exact Nat.le_trans (gl _ svW3) (by decide)
  · exact Nat.le_trans (gl _ svW4) (by decide)
  · exact Nat.le_trans (gl _ svW5) (by decide)
  · exact gl _ svW6
def svG : List Value := [.ref 33, .ref 34, .ref 35, .ref 36, .ref 37, .ref 38, .ref 39]
def sv31 : List Value := [.ref 32, .ref 40, .ref 43, .ref 45, .ref 53]
/-- what the survey works with -/
def SVB (c : Nat → List Value) : Prop := c 31 = sv31 ∧ c 32 = svG ∧ (∃ (n0 : Nat) (g0 w0 : Nat → Nat), c 40 = [.ref 41, .ref 42, .int (nI n0)] ∧ c 41 = ar 10 (fun i => nI (g0 i)) ∧ c 42 = ar 10 (fun i => nI (w0 i)) ∧ n0 ≤ 10 ∧ ∀ i, g0 i < 1024) ∧ c 43 = [.ref 44] ∧ (∃ q : Nat → Nat, c 44 = ar 10 (fun i => nI (q i))) ∧ (∃ k V W, WX 45 c k V W) ∧ ∃ k q, c 53 = [.ref 54, .int (nI k)] ∧ c 54 = ar 10 q ∧ k ≤ 10
def svW (m i : Nat) : Int32 := nI (al20 (svV m i))
/-- after so many ranks -/
def SK (c0 c : Nat → List Value) (m k : Nat) : Prop := (∀ i, i < 41 ∨ i = 42 ∨ i = 43 ∨ i = 45 ∨ 54 < i → c i = c0 i) ∧ (∃ g0 : Nat → Nat, c 41 = ar 10 (fun i => nI (g0 i)) ∧ ∀ i, g0 i < 1024) ∧ (∃ q : Nat → Nat, c 44 = ar 10 (fun i => nI (q i))) ∧ (∃ k V W, WX 45 c k V W) ∧ c 53 = [.ref 54, .int (nI (cnU (nwB (svV m)) k))] ∧ ∃ q, c 54 = ar 10 q ∧ (∀ j, j < cnU (nwB (svV m)) k → ∃ i, i < k ∧ q j = svW m i) ∧ ∀ i, i < k → ∃ j, j < cnU (nwB (svV m)) k ∧ q j = svW m i
/-- what holds before the ranks -/
def SK0 (c0 : Nat → List Value) (m : Nat) : Prop := c0 31 = sv31 ∧ c0 40 = [.ref 41, .ref 42, .int (nI m)] ∧ c0 42 = ar 10 (fun _ => nI 1) ∧ c0 43 = [.ref 44]
theorem ap45 : apart 40 41 42 51 (wA 45) := by
  unfold apart
  decide
theorem svW_inj (h1 : 1 ≤ m) (hm : m ≤ 10) {i j : Nat} (h : svW m i = svW m j) : svV m i = svV m j := by
  have a : ∀ i, WK (svV m i) ∧ svV m i % 2 = 1 := fun i => by
    have F := rkT_F (r := i) h1 hm
    have := Sw_all (w := fun _ => 0) F.1 hm (show 0 < m by omega)
    rw [(tr_al F.1.1 hm h1).mpr F.2] at this
    exact ⟨this.1, this.2.1⟩
  have l1 := al_lt2 (a i).1
  have l2 := al_lt2 (a j).1
  exact al_inj (a i).1 (a j).1 (a i).2 (a j).2 ((i_eq (by omega) (by omega)).mp h)
theorem SK.step {c0 c : Nat → List Value} {k : Nat} (J : SK c0 c m k) (J0 : SK0 c0 m) (h1 : 1 ≤ m) (hm : m ≤ 10) (hk : k < 2147483648) (hc : cnU (nwB (svV m)) (k + 1) ≤ 6) {lz sz : Int32} : ∃ c', SK c0 c' m (k + 1) ∧ ∀ P, SW none m_X7_goThrough (d + 5) 0 0 45 [some (.ref 31), some (.int (nI m)), some (.int (if nwB (svV m) k = true then nI k else lz)), some (.int (sz + nI (svD m k))), some (.int (nI (k + 1))), none] [] (hp c') P → SW none m_X7_goThrough (d + 5) 0 0 54 [some (.ref 31), some (.int (nI m)), some (.int lz), some (.int sz), some (.int (nI k)), none] [] (hp c) P := by
  obtain ⟨fr, ⟨g0, h41, hg0⟩, ⟨q, hq⟩, ⟨kw, V, W, X⟩, h53, q5, h54, E1, E2⟩ := J
  obtain ⟨i31, i40, i42, i43⟩ := J0
  have hcs : cnU (nwB (svV m)) (k + 1) = if nwB (svV m) k = true then cnU (nwB (svV m)) k + 1 else cnU (nwB (svV m)) k := cnU_s
  obtain ⟨cw, ecw⟩ : ∃ cw, cw = cnU (nwB (svV m)) k := ⟨_, rfl⟩
  rw [← ecw] at h53 E1 E2 hcs
  have c31 : c 31 = sv31 := (fr 31 (by decide)).trans i31
  have c40 : c 40 = [.ref 41, .ref 42, .int (nI m)] := (fr 40 (by decide)).trans i40
  have c42 : c 42 = ar 10 (fun _ => nI 1) := (fr 42 (by decide)).trans i42
  have c43 : c 43 = [.ref 44] := (fr 43 (by decide)).trans i43
  have C : CO (hp c) 43 44 q := ⟨hp_is 43 1 c43 (by decide) (by decide), hp_is 44 100 hq (by decide) (by decide)⟩
  have m1 := s_setRank (d := d + 2) C hm hk
  rw [hp_set (by decide) (by decide)] at m1
  obtain ⟨c1, ec1⟩ : ∃ c1, c1 = up1 c 44 (ar 10 (fun i => nI (srQ m k q (m - 2) i))) := ⟨_, rfl⟩
  rw [← ec1] at m1
  have o1 : ∀ i, i ≠ 44 → c1 i = c i := fun i hi => by rw [ec1]; exact up1_ne _ _ hi
  have F1 : FO (hp c1) 40 41 42 m g0 (fun _ => 1) := hp_fo 40 41 42 ((o1 40 (by decide)).trans c40) ((o1 41 (by decide)).trans h41) ((o1 42 (by decide)).trans c42) (by decide) hm hg0 (by decide) (by decide) (by decide)
  have C1 : CO (hp c1) 43 44 (srQ m k q (m - 2)) := ⟨hp_is 43 1 ((o1 43 (by decide)).trans c43) (by decide) (by decide), hp_is 44 100 (by rw [ec1]; exact up1_same _ _ _) (by decide) (by decide)⟩
  have hq1 : ∀ i, i < m - 2 → srQ m k q (m - 2) i < m := fun i hi => by rw [srQ_all hi]; exact rkD_lt h1
  obtain ⟨ok1, ok2⟩ := pl_ok h1 hm hq1
  have m2 := s_plant (d := d + 2) F1 C1 (by decide) hq1 ok1 h1 ok2
  rw [plT_rk, hp_set (by decide) (by decide)] at m2
  obtain ⟨c2, ec2⟩ : ∃ c2, c2 = up1 c1 41 (ar 10 (fun i => nI (rkT m k i))) := ⟨_, rfl⟩
  rw [← ec2] at m2
  have o2 : ∀ i, i ≠ 41 → c2 i = c1 i := fun i hi => by rw [ec2]; exact up1_ne _ _ hi
  have FT := rkT_F (r := k) h1 hm
  have F2 : FO (hp c2) 40 41 42 m (rkT m k) (fun _ => 1) := hp_fo 40 41 42 ((o2 40 (by decide)).trans ((o1 40 (by decide)).trans c40)) (by rw [ec2]; exact up1_same _ _ _) ((o2 42 (by decide)).trans ((o1 42 (by decide)).trans c42)) (by decide) hm (FT.1.1.k hm) (by decide) (by decide) (by decide)
  have m3 := s_all (d := d + 4) F2
  have al1 : al m < 1024 := by
    have := pow_le10 hm
    have : al m < 2 ^ m := Nat.sub_lt (Nat.two_pow_pos m) (by decide)
    omega
  have hal : comp (rkT m k) m 0 = al m := (tr_al FT.1.1 hm h1).mpr FT.2
  have hlow : low (al m) = some 0 := by
    rw [← hal]
    have := (rot_ok FT.1.1 hm (show 0 < m by omega))
    rw [this.1]
    have := this.2.2
    exact congrArg some (by omega)
  have X2 : WX 45 c2 kw V W := by
    obtain ⟨x1, x2, x3, x4, x5⟩ := X
    have oo : ∀ i, i ≠ 41 → i ≠ 44 → c2 i = c i := fun i a b => (o2 i a).trans (o1 i b)
    refine ⟨(oo 45 (by decide) (by decide)).trans x1, (oo 51 (by decide) (by decide)).trans x2, x3, fun i hi => (oo _ ?_ ?_).trans (x4 i hi), x5⟩
    · unfold wA; split <;> omega
    · unfold wA; split <;> omega
  have D2 := X2.D (Or.inr rfl)
  have m4 := s_wordOf (d := d) F2 D2 ap45 D2.S D2.2.2.1 al1 hlow (show 0 < m by omega)
  rw [D2.id, hW_hp (Or.inr rfl), wo_ok2 (w := fun _ => 0) FT.1 hm hlow (show 0 < m by omega) hal] at m4
  have kok := wo_ok (s := al m) (FT.1.1.k hm) hm D2.S (by rw [hlow]; decide)
  obtain ⟨c3, ec3⟩ : ∃ c3, c3 = cW 45 c2 kw (wo (rkT m k) m (al m) (V, W)).1.2 := ⟨_, rfl⟩
  rw [← ec3] at m4
  have X3 : WX 45 c3 kw (wo (rkT m k) m (al m) (V, W)).1.1 (wo (rkT m k) m (al m) (V, W)).1.2 := by rw [ec3]; exact cW_WX X2 D2.2.2.1 kok
  have o3 : ∀ i, i ≤ 45 ∨ 52 < i → c3 i = c2 i := fun i hi => by rw [ec3]; exact cW_ne hi
  have m4 : MSE m_X8_wordOf (d + 4) [.ref 45, .ref 40, .int (nI (al m))] (hp c2) (some (.int (svW m k))) (hp c3) := m4
  have e53 : c3 53 = [.ref 54, .int (nI cw)] := by rw [o3 53 (by decide), o2 53 (by decide), o1 53 (by decide)]; exact h53
  have e54 : c3 54 = ar 10 q5 := by rw [o3 54 (by decide), o2 54 (by decide), o1 54 (by decide)]; exact h54
  have hcw : cw ≤ 6 := by
    rw [hcs] at hc
    split at hc <;> omega
  have E3 : ME (hp c3) 53 54 cw q5 := ⟨hp_is 53 4 e53 (by decide) (by decide), hp_is 54 100 e54 (by decide) (by decide), by omega⟩
  have F3 : ∀ c4, (∀ i, i < 53 → c4 i = c3 i) → FO (hp c4) 40 41 42 m (rkT m k) (fun _ => 1) := fun c4 h4 => hp_fo 40 41 42 (by rw [h4 40 (by decide), o3 40 (by decide), o2 40 (by decide), o1 40 (by decide)]; exact c40) (by rw [h4 41 (by decide), o3 41 (by decide), ec2]; exact up1_same _ _ _) (by rw [h4 42 (by decide), o3 42 (by decide), o2 42 (by decide), o1 42 (by decide)]; exact c42) (by decide) hm (FT.1.1.k hm) (by decide) (by decide) (by decide)
  have S31 : ∀ c4 : Nat → List Value, c4 31 = sv31 → (hp c4)[31]? = some (7, sv31) := fun c4 h => hp_is 31 7 h (by decide) (by decide)
  have s31 : c1 31 = sv31 := (o1 31 (by decide)).trans c31
  have t31 : c2 31 = sv31 := (o2 31 (by decide)).trans s31
  have u31 : c3 31 = sv31 := (o3 31 (by decide)).trans t31
  have SK3 : ∀ c4, (∀ i, i ≠ 53 → i ≠ 54 → c4 i = c3 i) → (∃ qq, c4 53 = [.ref 54, .int (nI (cnU (nwB (svV m)) (k + 1)))] ∧ c4 54 = ar 10 qq ∧ (∀ j, j < cnU (nwB (svV m)) (k + 1) → ∃ i, i < k + 1 ∧ qq j = svW m i) ∧ ∀ i, i < k + 1 → ∃ j, j < cnU (nwB (svV m)) (k + 1) ∧ qq j = svW m i) → SK c0 c4 m (k + 1) := fun c4 h4 ⟨qq, a1, a2, a3, a4⟩ => by
    refine ⟨fun i hi => ?_, ⟨rkT m k, ?_, FT.1.1.k hm⟩, ⟨srQ m k q (m - 2), ?_⟩, ⟨kw, (wo (rkT m k) m (al m) (V, W)).1.1, (wo (rkT m k) m (al m) (V, W)).1.2, ?_⟩, a1, qq, a2, a3, a4⟩
    · rw [h4 i (by omega) (by omega), o3 i (by omega), o2 i (by omega), o1 i (by omega)]; exact fr i hi
    · rw [h4 41 (by decide) (by decide), o3 41 (by decide), ec2]; exact up1_same _ _ _
    · rw [h4 44 (by decide) (by decide), o3 44 (by decide), o2 44 (by decide), ec1]; exact up1_same _ _ _
    · obtain ⟨x1, x2, x3, x4, x5⟩ := X3
      refine ⟨(h4 45 (by decide) (by decide)).trans x1, (h4 51 (by decide) (by decide)).trans x2, x3, fun i hi => (h4 _ ?_ ?_).trans (x4 i hi), x5⟩
      · unfold wA; split <;> omega
      · unfold wA; split <;> omega
  have H43 : ∀ c4 : Nat → List Value, c4 43 = [.ref 44] → (hp c4)[43]? = some (1, [.ref 44]) := fun c4 h => hp_is 43 1 h (by decide) (by decide)
  by_cases nw : nwB (svV m) k = true
  · have hno : mt q5 cw (svW m k) = none := by
      unfold mt
      rw [List.find?_eq_none]
      intro j hj e
      obtain ⟨i, hi, ei⟩ := E1 j (List.mem_range.mp hj)
      have e := of_decide_eq_true e
      exact nwB_iff.mp nw i hi (svW_inj h1 hm (ei.symm.trans e))
    have m5 := s_numberOf0 (d := d + 4) E3 hno (by omega)
    rw [hp_set (by decide) (by decide), hp_set (by decide) (by decide)] at m5
    obtain ⟨c4, ec4⟩ : ∃ c4, c4 = up1 (up1 c3 54 (ar 10 (up1 q5 cw (svW m k)))) 53 [.ref 54, .int (nI (cw + 1))] := ⟨_, rfl⟩
    rw [← ec4] at m5
    have o4 : ∀ i, i ≠ 53 → i ≠ 54 → c4 i = c3 i := fun i a b => by rw [ec4, up1_ne _ _ a, up1_ne _ _ b]
    rw [if_pos nw] at hcs
    have J4 : SK c0 c4 m (k + 1) := SK3 c4 o4 (by
      refine ⟨up1 q5 cw (svW m k), by rw [hcs, ec4]; exact up1_same _ _ _, by rw [ec4]; exact (up1_ne _ _ (by decide)).trans (up1_same _ _ _), fun j hj => ?_, fun i hi => ?_⟩
      · by_cases e : j = cw
        · exact ⟨k, by omega, by rw [e, up1_same]⟩
        · obtain ⟨i, hi, ei⟩ := E1 j (by omega)
          exact ⟨i, by omega, by rw [up1_ne _ _ e]; exact ei⟩
      · by_cases e : i = k
        · exact ⟨cw, by omega, by rw [e, up1_same]⟩
        · obtain ⟨j, hj, ej⟩ := E2 i (by omega)
          exact ⟨j, by omega, by rw [up1_ne _ _ (by omega)]; exact ej⟩)
    have F4 := F3 c4 (fun i hi => o4 i (by omega) (by omega))
    have m6 := s_all (d := d + 4) F4
    have m7 := s_diameter (d := d + 1) F4 al1 h1
    have v31 : c4 31 = sv31 := (o4 31 (by decide) (by decide)).trans u31
    refine ⟨c4, J4, fun P K => b_X7_goThrough_54 (x13 := nI cw) (x29 := nI (cw + 1)) (S31 c c31) rfl C.1 m1 (S31 c1 s31) rfl (S31 c1 s31) rfl C1.1 m2 (S31 c2 t31) rfl (hp_is (c := c2) (v := [.ref 54, .int (nI cw)]) 53 4 (by rw [o2 53 (by decide), o1 53 (by decide)]; exact h53) (by decide) (by decide)) rfl (S31 c2 t31) rfl (S31 c2 t31) rfl (S31 c2 t31) rfl (S31 c2 t31) rfl F2.1 m3 D2.1 m4 E3.1 m5 (S31 c4 v31) rfl (hp_is (c := c4) (v := [.ref 54, .int (nI (cw + 1))]) 53 4 (by rw [ec4]; exact up1_same _ _ _) (by decide) (by decide)) rfl (fun q => absurd ((nI_leI (by omega) (by omega)).mp q) (by omega)) (fun _ => b_X7_goThrough_122 (b_X7_goThrough_128 (S31 c4 v31) rfl (S31 c4 v31) rfl F4.1 m6 F4.1 m7 ?_))⟩
    rw [if_pos nw] at K
    rw [nI_1]; exact K
  · have hold : ∃ i, mt q5 cw (svW m k) = some i := by
      cases e : mt q5 cw (svW m k) with
      | some i => exact ⟨i, rfl⟩
      | none =>
        unfold mt at e
        rw [List.find?_eq_none] at e
        obtain ⟨i', hi', e'⟩ : ∃ i', i' < k ∧ svV m i' = svV m k := Classical.byContradiction fun h => nw (nwB_iff.mpr (fun q hq e => h ⟨q, hq, e⟩))
        obtain ⟨j, hj, ej⟩ := E2 i' hi'
        refine absurd (decide_eq_true ?_) (e j (List.mem_range.mpr hj))
        rw [ej]; unfold svW; rw [e']
    obtain ⟨i0, hi0⟩ := hold
    have m5 := s_numberOf (d := d + 4) E3 hi0
    rw [if_neg nw] at hcs
    have J4 : SK c0 c3 m (k + 1) := SK3 c3 (fun _ _ _ => rfl) (by
      refine ⟨q5, by rw [hcs]; exact e53, e54, fun j hj => ?_, fun i hi => ?_⟩
      · obtain ⟨i, hi, ei⟩ := E1 j (by omega)
        exact ⟨i, by omega, ei⟩
      · by_cases e : i = k
        · obtain ⟨i', hi', e'⟩ : ∃ i', i' < k ∧ svV m i' = svV m k := Classical.byContradiction fun h => nw (nwB_iff.mpr (fun q hq e => h ⟨q, hq, e⟩))
          obtain ⟨j, hj, ej⟩ := E2 i' hi'
          exact ⟨j, by omega, by rw [ej, e]; unfold svW; rw [e']⟩
        · obtain ⟨j, hj, ej⟩ := E2 i (by omega)
          exact ⟨j, by omega, ej⟩)
    have F4 := F3 c3 (fun i hi => rfl)
    have m6 := s_all (d := d + 4) F4
    have m7 := s_diameter (d := d + 1) F4 al1 h1
    refine ⟨c3, J4, fun P K => b_X7_goThrough_54 (x13 := nI cw) (x29 := nI cw) (S31 c c31) rfl C.1 m1 (S31 c1 s31) rfl (S31 c1 s31) rfl C1.1 m2 (S31 c2 t31) rfl (hp_is (c := c2) (v := [.ref 54, .int (nI cw)]) 53 4 (by rw [o2 53 (by decide), o1 53 (by decide)]; exact h53) (by decide) (by decide)) rfl (S31 c2 t31) rfl (S31 c2 t31) rfl (S31 c2 t31) rfl (S31 c2 t31) rfl F2.1 m3 D2.1 m4 E3.1 m5 (S31 c3 u31) rfl E3.1 rfl (fun _ => b_X7_goThrough_127 (b_X7_goThrough_128 (S31 c3 u31) rfl (S31 c3 u31) rfl F4.1 m6 F4.1 m7 ?_)) (fun q => absurd (nI_le (Nat.le_refl cw) (by omega)) q)⟩
    rw [if_neg nw] at K
    rw [nI_1]; exact K
end
