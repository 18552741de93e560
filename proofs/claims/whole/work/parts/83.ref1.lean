/-! the reference's state; what a question changes -/
def SC (c : Nat → List Value) : Prop := (∃ o : Nat → Nat, c 72 = ar 20 (fun i => nI (o i))) ∧ (∃ K : Nat → Nat, c 76 = ar 121 (fun i => nI (K i))) ∧ (∃ q : Nat → Nat, c 78 = ar 10 (fun i => nI (q i))) ∧ (∃ r : Nat → Int32, c 80 = ar 11 r) ∧ ∃ r : Nat → Int32, c 81 = ar 40 r
def QF (c c' : Nat → List Value) (t : Nat) : Prop := (∀ i, i ≠ 70 → i ≠ 72 → i ≠ 76 → i ≠ 78 → i ≠ 80 → i ≠ 81 → c' i = c i) ∧ SC c' ∧ ∃ x : Int32, c' 70 = ((c 70).set 10 (.int x)).set 0 (.int (nI t))
def RF (c : Nat → List Value) (n : Nat) (g w : Nat → Nat) : Prop := FOR g n ∧ 1 ≤ n ∧ n ≤ 10 ∧ (∀ i, w i ≤ 99) ∧ SC c ∧ c 71 = ar 20 (fun i => nI (sv g w i)) ∧ ∃ z : Nat → Int32, c 70 = moL z ∧ z 9 = 0 ∧ z 6 = nI n
def cT (c : Nat → List Value) (z : Nat → Int32) (t : Int32) : Nat → List Value := up1 c 70 (moL (up1 z 0 t))
section
variable {d n t : Nat} {c c' : Nat → List Value} {g w : Nat → Nat} {z : Nat → Int32} {x y : Int32}
theorem RF.F (R : RF c n g w) : FOR g n := R.1
theorem RF.one (R : RF c n g w) : 1 ≤ n := R.2.1
theorem RF.le (R : RF c n g w) : n ≤ 10 := R.2.2.1
theorem RF.w99 (R : RF c n g w) : ∀ i, w i ≤ 99 := R.2.2.2.1
theorem RF.S (R : RF c n g w) : SC c := R.2.2.2.2.1
theorem RF.row (R : RF c n g w) : c 71 = ar 20 (fun i => nI (sv g w i)) := R.2.2.2.2.2.1
theorem RF.rowH (R : RF c n g w) : (hp c)[71]? = some (100, ar 20 (fun i => nI (sv g w i))) := hp_is 71 100 R.row (by decide) (by decide)
theorem RF.Z (R : RF c n g w) : ∃ z : Nat → Int32, c 70 = moL z ∧ z 9 = 0 ∧ z 6 = nI n := R.2.2.2.2.2.2
theorem RF.g10 (R : RF c n g w) : ∀ i, g i < 1024 := R.F.1.k R.le
theorem RF.V (R : RF c n g w) : VW c n g := by
  obtain ⟨z, h1, h2, h3⟩ := R.Z
  exact ⟨R.le, R.g10, z, h1, Or.inl ⟨h2, h3, w, R.row⟩⟩
theorem RF.Y (R : RF c n g w) : MWt c w := ⟨R.w99, g, R.row⟩
theorem RF.K (R : RF c n g w) : GOK g n := GOK_of R.F.1 R.le
theorem RF.O (R : RF c n g w) : WOK g n := WOK_of R.F R.le
theorem RF.kid (R : RF c n g w) : ∃ K, cK c K = c := by
  obtain ⟨-, ⟨K, hK⟩, -⟩ := R.S
  exact ⟨K, up1_id hK⟩
theorem RF.M (R : RF c n g w) : ∃ fs, (hp c)[70]? = some (10, fs) := by
  obtain ⟨z, h1, -⟩ := R.Z
  exact ⟨_, mo_H h1⟩
theorem moS0 : (moL z).set 0 (.int x) = moL (up1 z 0 x) := rfl
theorem moS10 : (moL z).set 10 (.int x) = moL (up1 z 10 x) := rfl
theorem RF.q (R : RF c n g w) (Q : QF c c' t) : RF c' n g w := by
  obtain ⟨q1, q2, x, q3⟩ := Q
  obtain ⟨z0, r1, r2, r3⟩ := R.Z
  rw [r1, moS10, moS0] at q3
  exact ⟨R.F, R.one, R.le, R.w99, q2, by rw [q1 71 (by decide) (by decide) (by decide) (by decide) (by decide) (by decide)]; exact R.row, _, q3, by rw [up1_ne _ _ (by decide), up1_ne _ _ (by decide)]; exact r2, by rw [up1_ne _ _ (by decide), up1_ne _ _ (by decide)]; exact r3⟩
theorem cT_H {t : Int32} : (hp (cT c z t))[70]? = some (10, moL (up1 z 0 t)) := mo_H (up1_same _ _ _)
theorem cT_ne {t : Int32} {i : Nat} (h : i ≠ 70) : cT c z t i = c i := up1_ne _ _ h
theorem SC.off (S : SC c) {i : Nat} {v : List Value} (h : i ≠ 72 ∧ i ≠ 76 ∧ i ≠ 78 ∧ i ≠ 80 ∧ i ≠ 81) : SC (up1 c i v) :=
  ⟨by rw [up1_ne _ _ (Ne.symm h.1)]; exact S.1, by rw [up1_ne _ _ (Ne.symm h.2.1)]; exact S.2.1, by rw [up1_ne _ _ (Ne.symm h.2.2.1)]; exact S.2.2.1, by rw [up1_ne _ _ (Ne.symm h.2.2.2.1)]; exact S.2.2.2.1, by rw [up1_ne _ _ (Ne.symm h.2.2.2.2)]; exact S.2.2.2.2⟩
theorem up1_here {α : Type} {z : Nat → α} {i : Nat} : up1 z i (z i) = z := by
  funext j
  unfold up1
  by_cases e : j = i
  · rw [if_pos e, e]
  · rw [if_neg e]
theorem QF.th (S : SC c) (hz : c 70 = moL z) : QF c (cT c z (nI t)) t :=
  ⟨fun i h _ _ _ _ _ => cT_ne h, S.off (by decide), z 10, by
    rw [hz, moS10, up1_here]
    exact up1_same _ _ _⟩
theorem QF.tr {c1 : Nat → List Value} {t1 : Nat} (A : QF c c1 t1) (B : QF c1 c' t) : QF c c' t := by
  obtain ⟨a1, a2, x1, a3⟩ := A
  obtain ⟨b1, b2, x2, b3⟩ := B
  refine ⟨fun i h1 h2 h3 h4 h5 h6 => (b1 i h1 h2 h3 h4 h5 h6).trans (a1 i h1 h2 h3 h4 h5 h6), b2, x2, ?_⟩
  rw [b3, a3, List.set_comm (i := 0) (j := 10) _ _ (by decide), List.set_set, List.set_set]
theorem r_fails1 (hz : c 70 = moL z) : MSE m_X10_fails d [.ref 70, .int 1, .int y] (hp c) (some (.int 1)) (hp (cT c z (nI 1))) := by
  have e : (hp c).set 70 (10, (moL z).set 0 (.int 1)) = hp (cT c z (nI 1)) := hp_set (by decide) (by decide)
  exact e_X10_fails (b_X10_fails_0 (fun q => absurd q (by decide)) (fun _ => b_X10_fails_5 (b_X10_fails_18 (mo_H hz) (by show 0 < 27; decide) (by rw [e]; exact cT_H) rfl (fun q => absurd (show (nI 1 : Int32) ≤ 0 from q) (by decide)) (fun _ => b_X10_fails_28 (b_X10_fails_33 (by decide) ⟨rfl, e⟩)))))
theorem r_fails0 (hz : c 70 = moL z) : MSE m_X10_fails d [.ref 70, .int 0, .int 0] (hp c) (some (.int 0)) (hp (cT c z (nI 0))) := by
  have e : (hp c).set 70 (10, (moL z).set 0 (.int 0)) = hp (cT c z (nI 0)) := hp_set (by decide) (by decide)
  exact e_X10_fails (b_X10_fails_0 (fun _ => b_X10_fails_9 (fun _ => b_X10_fails_17 (b_X10_fails_18 (mo_H hz) (by show 0 < 27; decide) (by rw [e]; exact cT_H) rfl (fun _ => b_X10_fails_32 (b_X10_fails_33 (by decide) ⟨rfl, e⟩)) (fun q => absurd (show (nI 0 : Int32) ≤ 0 by decide) q))) (fun q => absurd rfl q)) (fun q => absurd rfl q))
theorem r_fails2 (hz : c 70 = moL z) : MSE m_X10_fails d [.ref 70, .int 0, .int 1] (hp c) (some (.int 1)) (hp (cT c z (nI 2))) := by
  have e : (hp c).set 70 (10, (moL z).set 0 (.int 2)) = hp (cT c z (nI 2)) := hp_set (by decide) (by decide)
  exact e_X10_fails (b_X10_fails_0 (fun _ => b_X10_fails_9 (fun q => absurd q (by decide)) (fun _ => b_X10_fails_13 (b_X10_fails_18 (mo_H hz) (by show 0 < 27; decide) (by rw [e]; exact cT_H) rfl (fun q => absurd (show (nI 2 : Int32) ≤ 0 from q) (by decide)) (fun _ => b_X10_fails_28 (b_X10_fails_33 (by decide) ⟨rfl, e⟩))))) (fun q => absurd rfl q))
/-- whether there is such a vertex -/
def isV (n : Nat) (x : Int32) : Bool := decide (∃ v, v < n ∧ x = nI v)
theorem isV_t {v : Nat} (h : v < n) : isV n (nI v) = true := decide_eq_true ⟨v, h, rfl⟩
theorem isV_of (h : isV n x = true) : ∃ v, v < n ∧ x = nI v := of_decide_eq_true h
theorem isV_no (h : isV n x = false) : ∀ v, v < n → x ≠ nI v := fun v hv e => of_decide_eq_false h ⟨v, hv, e⟩
theorem r_isInV {m : Nat} (hm : m < 2147483648) : MSE m_X10_isIn d [.int x, .int 0, .int (nI m - 1)] (hp c) (some (.int (nI (if isV m x = true then 1 else 0)))) (hp c) := by
  have h := r_isIn (d := d) (h := hp c) (x := x) (a := 0) (b := nI m - 1)
  cases hv : isV m x with
  | true =>
    obtain ⟨v, h1, h2⟩ := isV_of hv
    have e : nI m - 1 = nI (m - 1) := pk_sub (a := m) (b := 1) (by omega)
    rw [if_neg (fun q => by
      rcases q with q | q
      · rw [h2] at q; exact nI_pos (by omega) q
      · rw [e, h2] at q; exact nI_nlt (show v ≤ m - 1 by omega) (by omega) q)] at h
    exact h
  | false =>
    rw [if_pos (by
      rcases pk_ix x (n := m) hm with h1 | h1 | ⟨j, hj, e⟩
      · exact Or.inl h1
      · by_cases h0 : x < 0
        · exact Or.inl h0
        · right
          obtain ⟨k, hk, rfl⟩ := nI_of h0
          have hmk := (nI_leI hm hk).mp h1
          cases m with
          | zero =>
            show nI 0 - 1 < nI k
            rw [show nI 0 - 1 = (-1 : Int32) by decide]
            exact Int32.not_le.mp (fun q => by
              have h2 := nI_pos hk
              have h3 : nI k < 0 := Int32.lt_of_le_of_lt q (by decide)
              exact h2 h3)
          | succ m =>
            rw [show nI (m + 1) - 1 = nI m from nI_pred _]
            exact nI_lt (by omega) hk
      · exact absurd e (isV_no hv j hj))] at h
    exact h
theorem r_isVertex (R : RF c n g w) : MSE m_X10_isVertex (d + 1) [.ref 70, .int x] (hp c) (some (.int (nI (if isV n x = true then 1 else 0)))) (hp c) := by
  obtain ⟨z, h1, h2, h3⟩ := R.Z
  have hn := R.le
  exact e_X10_isVertex (b_X10_isVertex_0 (x4 := nI n) (mo_H h1) (by rw [← h3]; rfl) (r_isInV (by omega)) bl01 ⟨rfl, rfl⟩)
theorem nv1 {b : Bool} (h : b = true) : ¬ nI (if b = true then 1 else 0) = 0 := by rw [h]; decide
theorem nv0 {b : Bool} (h : b = false) : nI (if b = true then 1 else 0) = 0 := by rw [h]; rfl
/-! distances, paths -/
theorem q_distance (R : RF c n g w) {u v : Nat} (hu : u < n) (hv : v < n) : ∃ c', MSE m_X10_distance (d + 3) [.ref 70, .int (nI u), .int (nI v)] (hp c) (some (.int (iO (ds g n u v)))) (hp c') ∧ QF c c' 0 := by
  obtain ⟨z, h1, h2, h3⟩ := R.Z
  have hn := R.le
  have Q := QF.th (t := 0) R.S h1
  have R2 := R.q Q
  obtain ⟨fs, H⟩ := R.M
  obtain ⟨fs2, H2⟩ := R2.M
  exact ⟨_, e_X10_distance (b_X10_distance_0 H (r_isVertex R) (fun q => absurd q (nv1 (isV_t hu))) (fun _ => b_X10_distance_9 H (r_isVertex R) (fun _ => b_X10_distance_21 (b_X10_distance_22 H (r_fails0 h1) (fun _ => b_X10_distance_33 H2 (r_far R2.V (by omega) (by omega)) (b_X10_distance_39 ⟨rfl, rfl⟩)) (fun q => absurd rfl q))) (fun q => absurd q (nv1 (isV_t hv))))), Q⟩
theorem q_distanceX (R : RF c n g w) (h : isV n x = false ∨ isV n y = false) : ∃ c', MSE m_X10_distance (d + 3) [.ref 70, .int x, .int y] (hp c) (some (.int 0)) (hp c') ∧ QF c c' 1 := by
  obtain ⟨z, h1, h2, h3⟩ := R.Z
  have Q := QF.th (t := 1) R.S h1
  obtain ⟨fs, H⟩ := R.M
  have fin : SW none m_X10_distance (d + 3) 0 0 17 [some (.ref 70), some (.int x), some (.int y)] [.ref 70] (hp c) (rI 0 (hp (cT c z (nI 1)))) := b_X10_distance_17 (b_X10_distance_22 H (r_fails1 h1) (fun q => absurd q (by decide)) (fun _ => b_X10_distance_29 (b_X10_distance_39 ⟨rfl, rfl⟩)))
  refine ⟨_, e_X10_distance (b_X10_distance_0 H (r_isVertex R) (fun _ => fin) (fun q => b_X10_distance_9 H (r_isVertex R) (fun q2 => ?_) (fun _ => fin))), Q⟩
  rcases h with h | h
  · exact absurd (nv0 h) q
  · exact absurd (nv0 h) q2
/-- whether a vertex lies between two others -/
def btw (g : Nat → Nat) (n v a b : Nat) : Bool := decide (ds g n a v ≠ none ∧ iO (ds g n a v) + iO (ds g n v b) = iO (ds g n a b))
theorem iO_m1 (hn : n ≤ 10) {a b : Nat} : iO (ds g n a b) = -1 ↔ ds g n a b = none := iO_none (fun k q => by have := ds_lt q; omega)
theorem r_isBetween (X : VW c n g) {v a b : Nat} (hv : v < 10) (ha : a < 10) (hb : b < 10) : MSE m_X10_isBetween (d + 2) [.ref 70, .int (nI v), .int (nI a), .int (nI b)] (hp c) (some (.int (nI (if btw g n v a b = true then 1 else 0)))) (hp c) := by
  have hn := X.1
  obtain ⟨z, H⟩ := X.M
  refine e_X10_isBetween (b_X10_isBetween_0 H (r_far X ha hv) (fun q => b_X10_isBetween_36 (b_X10_isBetween_37 (by decide) ⟨?_, rfl⟩)) (fun q => b_X10_isBetween_10 H (r_far X ha hv) H (r_far X hv hb) H (r_far X ha hb) (fun q2 => b_X10_isBetween_36 (b_X10_isBetween_37 (by decide) ⟨?_, rfl⟩)) (fun q2 => b_X10_isBetween_32 (b_X10_isBetween_37 (by decide) ⟨?_, rfl⟩))))
  · have e : btw g n v a b = false := decide_eq_false (fun h => h.1 ((iO_m1 hn).mp q))
    rw [e]; rfl
  · have e : btw g n v a b = false := decide_eq_false (fun h => q2 h.2)
    rw [e]; rfl
  · have e : btw g n v a b = true := decide_eq_true ⟨fun h => q ((iO_m1 hn).mpr h), q2⟩
    rw [e]; rfl
theorem ps_btw (G : GR g n) (hn : n ≤ 10) {v a b : Nat} (ha : a < n) (hb : b < n) (hv : v < n) (hab : ds g n a b ≠ none) : (ps g n a b).testBit v = btw g n v a b := by
  unfold ps btw
  rw [if_neg hab, stU_bit, decide_eq_true hv, Bool.true_and]
  refine Bool.eq_iff_iff.mpr ?_
  rw [decide_eq_true_eq, decide_eq_true_eq]
  refine ⟨fun h => ⟨fun e => ?_, h⟩, fun h => h.2⟩
  have e2 : ds g n v b = none := by
    cases h2 : ds g n v b with
    | none => rfl
    | some r =>
      exfalso
      obtain ⟨k, hk⟩ := Option.ne_none_iff_exists'.mp hab
      have h3 := (ds_cn G hn hb).mpr ⟨r, by rw [ds_sy G hn hb hv]; exact h2⟩
      have h4 := (ds_cn G hn ha).mpr ⟨k, hk⟩
      obtain ⟨q, hq⟩ := (ds_cn G hn ha).mp (cn_tr h4 h3)
      rw [e] at hq; cases hq
  obtain ⟨k, hk⟩ := Option.ne_none_iff_exists'.mp hab
  have hkl := ds_lt hk
  rw [e, e2, hk] at h
  have h : (-1 : Int32) + -1 = nI k := h
  exact nI_pos (show k < 2147483648 by omega) (by rw [← h]; decide)
/-- a place on a path -/
theorem pv_some (G : GR g n) (hn : n ≤ 10) {a b s L : Nat} (ha : a < n) (hb : b < n) (h : ds g n a b = some L) (hs : s ≤ L) : ∃ k, k < n ∧ pv g n a b (nI s) = some k ∧ btw g n k a b = true ∧ iO (ds g n a k) = nI s ∧ ∀ j, j < k → ¬ (btw g n j a b = true ∧ iO (ds g n a j) = nI s) := by
  have hab : ds g n a b ≠ none := by rw [h]; intro e; cases e
  obtain ⟨x, h1, h2⟩ := ds_cut G hn ha h hs
  have hx := ch_lt G ha (ds_ch G hn ha h1)
  have hL := ds_lt h
  have hbx : btw g n x a b = true := by
    refine decide_eq_true ⟨(by rw [h1]; intro e; cases e), ?_⟩
    rw [h1, h2, h]
    show nI s + nI (L - s) = nI L
    rw [nI_add]; congr 1; omega
  obtain ⟨k, hk, ⟨h3, h4⟩, h5⟩ := min_ex (P := fun k => btw g n k a b = true ∧ iO (ds g n a k) = nI s) (a := x) ⟨hbx, by rw [h1]; rfl⟩
  have hkn : k < n := by omega
  refine ⟨k, hkn, ?_, h3, h4, h5⟩
  refine find_range hkn (by rw [ps_btw G hn ha hb hkn hab, h3, decide_eq_true h4]; rfl) (fun j hj => ?_)
  rw [ps_btw G hn ha hb (by omega) hab]
  cases hc : btw g n j a b
  · rfl
  · rw [decide_eq_false (fun e => h5 j hj ⟨hc, e⟩)]; rfl
theorem pv_none (G : GR g n) (hn : n ≤ 10) {a b : Nat} (ha : a < n) (hb : b < n) {x : Int32} (h : ds g n a b = none ∨ ∃ L, ds g n a b = some L ∧ ∀ s, s ≤ L → x ≠ nI s) : pv g n a b x = none := by
  refine find_none (fun k hk => ?_)
  rcases h with h | ⟨L, h, hx⟩
  · have : ps g n a b = 0 := by unfold ps; rw [if_pos h]
    rw [this, Nat.zero_testBit, Bool.false_and]
  · have hab : ds g n a b ≠ none := by rw [h]; intro e; cases e
    rw [ps_btw G hn ha hb hk hab]
    cases hc : btw g n k a b
    · rfl
    · refine decide_eq_false (fun e => ?_)
      obtain ⟨h1, h2⟩ := of_decide_eq_true hc
      obtain ⟨i, hi⟩ := Option.ne_none_iff_exists'.mp h1
      have hil := ds_lt hi
      have hLl := ds_lt h
      rw [hi] at e h2
      rw [h] at h2
      cases hj : ds g n k b with
      | none =>
        rw [hj] at h2
        have h2 : nI i + (-1) = nI L := h2
        exact hx i (by
          cases i with
          | zero => exact absurd (nI_pos (show L < 2147483648 by omega)) (by rw [← h2]; decide)
          | succ i =>
            have e2 : nI (i + 1) + (-1) = nI i := pk_m1 i
            rw [e2] at h2
            have h3 := (i_eq (by omega) (by omega)).mp h2
            exfalso
            have h4 := (ds_cn G hn ha).mpr ⟨_, hi⟩
            have h5 := (ds_cn G hn ha).mpr ⟨_, h⟩
            obtain ⟨q, hq⟩ := (ds_cn G hn hk).mp (cn_tr (G.cnT h4) h5)
            rw [hj] at hq; cases hq) e.symm
      | some j =>
        have hjl := ds_lt hj
        rw [hj] at h2
        have h2 : nI i + nI j = nI L := h2
        rw [nI_add] at h2
        have := (i_eq (by omega) (by omega)).mp h2
        exact hx i (by omega) e.symm
end
