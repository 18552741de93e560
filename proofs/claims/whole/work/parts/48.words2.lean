abbrev vw_s : Type := (Nat → Nat) × (Nat → Nat → Int32)
section
variable {d : Nat} {h : ab_H} {o m c : Nat} {A : Nat → Nat} {V : Nat → Nat} {W : Nat → Nat → Int32} {f a b n : Nat} {g w : Nat → Nat}
/-- the centroids by the lengths of words -/
def cnB (W : Nat → Nat → Int32) (s : Nat) (v : Nat) : Bool := s.testBit v && !decide (nI (2 * pc s) < 2 * (if W 3 v < nI (2 * pc s) - W 2 v then nI (2 * pc s) - W 2 v else W 3 v))
def cnS (W : Nat → Nat → Int32) (n s : Nat) : Nat := stU (cnB W s) n
theorem s_centroidsSeen (F : FO h f a b n g w) (D : WD h o A m c V W) {s : Nat} (hs : s < 1024) : MSE m_X8_centroidsSeen (d + 1) [.ref o, .ref f, .int (nI s)] h (some (.int (nI (cnS W n s)))) h := by
  have hn := F.le
  have hp := pc_le s
  refine e_X8_centroidsSeen (b_X8_centroidsSeen_0 (s_bitCount hs) ?_)
  rw [show (2 : Int32) * nI (pc s) = nI (2 * pc s) from pk_mul 2 (pc s)]
  refine up_all (n := n) (T := fun k => a_X8_centroidsSeen_13 (d + 1) 0 0 o f (nI s) (nI (2 * pc s)) (nI (stU (cnB W s) k)) (nI k) h (rI (nI (cnS W n s)) h)) (fun k hk ih => ?_) ?_
  · have ih : a_X8_centroidsSeen_13 (d + 1) 0 0 o f (nI s) (nI (2 * pc s)) (nI (if cnB W s k = true then stU (cnB W s) k ||| 2 ^ k else stU (cnB W s) k)) (nI (k + 1)) h (rI (nI (cnS W n s)) h) := ih
    have hgt : ∀ x : Nat → Int32, (ar 10 x)[(nI k).toNatClampNeg]? = some (.int (x k)) := fun x => by rw [cl_nI (by omega)]; exact ar_at _ (by omega)
    refine b_X8_centroidsSeen_13 F.1 rfl (fun q => absurd q (nI_ge hk F.n31)) (fun _ => b_X8_centroidsSeen_22 (s_holds (by omega) (by omega)) (fun q => b_X8_centroidsSeen_65 ?_) (fun q => b_X8_centroidsSeen_31 D.1 rfl (D.row (by decide)) (nI_pos (by omega)) (hgt _) D.1 rfl (D.row (by decide)) (nI_pos (by omega)) (hgt _) (s_max _ _) (fun q2 => b_X8_centroidsSeen_65 ?_) (fun q2 => b_X8_centroidsSeen_56 (b_X8_centroidsSeen_65 ?_))))
    · rw [nI_1]
      rw [if_neg (by unfold cnB; rw [h01.mp q]; simp)] at ih
      exact ih
    · rw [nI_1]
      rw [if_neg (by unfold cnB; rw [decide_eq_true q2]; simp)] at ih
      exact ih
    · rw [nI_1, i_shl1 (by omega), i_or]
      rw [if_pos (by unfold cnB; rw [tb_of q, decide_eq_false q2]; rfl)] at ih
      exact ih
  · exact b_X8_centroidsSeen_13 F.1 rfl (fun _ => b_X8_centroidsSeen_71 ⟨rfl, rfl⟩) (fun q => absurd (nI_le (Nat.le_refl n) F.n31) q)
/-- the state behind a wordFrom -/
def wfS (g : Nat → Nat) (n : Nat) (S : vw_s) (v : Nat) : vw_s := (wfL g n S.1 v, wfR g n S.1 S.2 v)
def wfX (g : Nat → Nat) (n : Nat) (S : vw_s) (v : Nat) : Int32 := wfR g n S.1 S.2 v 1 v
def wsOk (S : vw_s) : Prop := S.2 0 = (fun i => nI (S.1 i)) ∧ ∀ i, S.1 i < 1024
theorem wsOk.wf {S : vw_s} (k : wsOk S) {g : Nat → Nat} {n : Nat} (hg : ∀ i, g i < 1024) {v : Nat} (hv : v < 10) : wsOk (wfS g n S v) := ⟨wfR_0, wfL_lt hg k.2 hv⟩
theorem WD.S (D : WD h o A m c V W) : wsOk (V, W) := ⟨D.2.2.2.2.2.1, D.2.2.2.2.2.2⟩
theorem WD.upS (D : WD h o A m c V W) {S : vw_s} {c' : Nat} (k : wsOk S) (hc : c' ≤ 10) : WD (hW h A m c' S.2) o A m c' S.1 S.2 := D.upd hc k.1 k.2
theorem s_wordS (F : FO h f a b n g w) (D : WD h o A m c V W) (hA : apart f a b m A) {S : vw_s} (k : wsOk S) {c' : Nat} (hc : c' ≤ 10) {v : Nat} (hv : v < n) : MSE m_X8_wordFrom (d + 3) [.ref o, .ref f, .int (nI v)] (hW h A m c' S.2) (some (.int (wfX g n S v))) (hW h A m c' (wfS g n S v).2) := by
  have := s_wordFrom (d := d) (F.hW D hA) (D.upS k hc) hA hv
  rw [D.again] at this
  exact this
/-- over the vertices of a set: the state, the least word -/
def woU (g : Nat → Nat) (n s : Nat) (S : vw_s) : Nat → vw_s × Int32
  | 0 => (S, -1)
  | k + 1 => if s.testBit k = true then (wfS g n (woU g n s S k).1 k, if (woU g n s S k).2 = -1 then wfX g n (woU g n s S k).1 k else if wfX g n (woU g n s S k).1 k < (woU g n s S k).2 then wfX g n (woU g n s S k).1 k else (woU g n s S k).2) else woU g n s S k
theorem woU_ok {g : Nat → Nat} {n s : Nat} {S : vw_s} (hg : ∀ i, g i < 1024) (k0 : wsOk S) : ∀ k, k ≤ 10 → wsOk (woU g n s S k).1
  | 0, _ => k0
  | k + 1, hk => by
    unfold woU
    split
    · exact (woU_ok hg k0 k (by omega)).wf hg (by omega)
    · exact woU_ok hg k0 k (by omega)
def wo (g : Nat → Nat) (n s : Nat) (S : vw_s) : vw_s × Int32 := woU g n (cnS (wfS g n S ((low s).getD 0)).2 n s) (wfS g n S ((low s).getD 0)) n
theorem wo_ok {g : Nat → Nat} {n s : Nat} {S : vw_s} (hg : ∀ i, g i < 1024) (hn : n ≤ 10) (k0 : wsOk S) (hl : (low s).getD 0 < 10) : wsOk (wo g n s S).1 := woU_ok hg (k0.wf hg hl) n hn
theorem s_wordOf (F : FO h f a b n g w) (D : WD h o A m c V W) (hA : apart f a b m A) {S : vw_s} (k0 : wsOk S) {c' : Nat} (hc : c' ≤ 10) {s l : Nat} (hs : s < 1024) (hl : low s = some l) (hln : l < n) : MSE m_X8_wordOf (d + 4) [.ref o, .ref f, .int (nI s)] (hW h A m c' S.2) (some (.int (wo g n s S).2)) (hW h A m c' (wo g n s S).1.2) := by
  have hn := F.le
  have hg := F.2.2.2.2.2
  have F1 := F.hW D hA (c' := c') (W' := S.2)
  have D1 := D.upS k0 hc
  have k1 := k0.wf (n := n) hg (show l < 10 by omega)
  have F2 := F.hW D hA (c' := c') (W' := (wfS g n S l).2)
  have D2 := D.upS k1 hc
  have m1 := s_lowest (d := d + 2) (h := hW h A m c' S.2) (s := s) (by omega)
  rw [hl] at m1
  have ew : wo g n s S = woU g n (cnS (wfS g n S l).2 n s) (wfS g n S l) n := by unfold wo; rw [hl]; rfl
  rw [ew]
  have hcn : cnS (wfS g n S l).2 n s < 1024 := stU_lt n hn
  refine e_X8_wordOf (b_X8_wordOf_0 (v4 := nI l) m1 D1.1 (s_wordS F D hA k0 hc hln) D2.1 (s_centroidsSeen F2 D2 hs) ?_)
  generalize cnS (wfS g n S l).2 n s = cs' at hcn ⊢
  generalize wfS g n S l = S1 at k1 ⊢
  refine up_all (n := n) (T := fun k => a_X8_wordOf_23 (d + 4) 0 0 o f (nI cs') (woU g n cs' S1 k).2 (nI k) (hW h A m c' (woU g n cs' S1 k).1.2) (rI (woU g n cs' S1 n).2 (hW h A m c' (woU g n cs' S1 n).1.2))) (fun k hk ih => ?_) ?_
  · have k2 := woU_ok (n := n) (s := cs') hg k1 k (by omega)
    have F3 := F.hW D hA (c' := c') (W' := (woU g n cs' S1 k).1.2)
    have D3 := D.upS k2 hc
    have ih : a_X8_wordOf_23 (d + 4) 0 0 o f (nI cs') (woU g n cs' S1 (k + 1)).2 (nI (k + 1)) (hW h A m c' (woU g n cs' S1 (k + 1)).1.2) (rI (woU g n cs' S1 n).2 (hW h A m c' (woU g n cs' S1 n).1.2)) := ih
    refine b_X8_wordOf_23 F3.1 rfl (fun q => absurd q (nI_ge hk F.n31)) (fun _ => b_X8_wordOf_32 (s_holds (by omega) (by omega)) (fun q => b_X8_wordOf_70 ?_) (fun q => ?_))
    · rw [nI_1]
      have e : woU g n cs' S1 (k + 1) = woU g n cs' S1 k := if_neg (by rw [h01.mp q]; decide)
      rw [e] at ih; exact ih
    · have e : woU g n cs' S1 (k + 1) = (wfS g n (woU g n cs' S1 k).1 k, if (woU g n cs' S1 k).2 = -1 then wfX g n (woU g n cs' S1 k).1 k else if wfX g n (woU g n cs' S1 k).1 k < (woU g n cs' S1 k).2 then wfX g n (woU g n cs' S1 k).1 k else (woU g n cs' S1 k).2) := if_pos (tb_of q)
      rw [e] at ih
      refine b_X8_wordOf_41 D3.1 (s_wordS F D hA k2 hc hk) (fun q2 => b_X8_wordOf_61 (s_min _ _) (b_X8_wordOf_68 (b_X8_wordOf_70 ?_))) (fun q2 => b_X8_wordOf_56 (b_X8_wordOf_68 (b_X8_wordOf_70 ?_)))
      · rw [nI_1]
        simp only [if_neg q2] at ih
        exact ih
      · rw [nI_1]
        simp only [if_pos q2] at ih
        exact ih
  · have F3 := F.hW D hA (c' := c') (W' := (woU g n cs' S1 n).1.2)
    exact b_X8_wordOf_23 F3.1 rfl (fun _ => b_X8_wordOf_76 ⟨rfl, rfl⟩) (fun q => absurd (nI_le (Nat.le_refl n) F.n31) q)
/-- over the vertices of a set: those with a word -/
def obU (g : Nat → Nat) (n s : Nat) (x : Int32) (S : vw_s) : Nat → vw_s × Nat
  | 0 => (S, 0)
  | k + 1 => if s.testBit k = true then (wfS g n (obU g n s x S k).1 k, if wfX g n (obU g n s x S k).1 k = x then (obU g n s x S k).2 ||| 2 ^ k else (obU g n s x S k).2) else obU g n s x S k
theorem obU_ok {g : Nat → Nat} {n s : Nat} {x : Int32} {S : vw_s} (hg : ∀ i, g i < 1024) (k0 : wsOk S) : ∀ k, k ≤ 10 → wsOk (obU g n s x S k).1 ∧ (obU g n s x S k).2 < 1024
  | 0, _ => ⟨k0, (by decide : 0 < 1024)⟩
  | k + 1, hk => by
    have ih := obU_ok (n := n) (s := s) (x := x) hg k0 k (by omega)
    unfold obU
    split
    · refine ⟨ih.1.wf hg (by omega), ?_⟩
      show (if _ then _ else _) < 1024
      split
      · exact or_lt ih.2 (pow_lt (by omega))
      · exact ih.2
    · exact ih
def ob (g : Nat → Nat) (n v : Nat) (S : vw_s) : vw_s × Nat := obU g n (comp g n v) (wfX g n S v) (wfS g n S v) n
theorem s_orbitOf (F : FO h f a b n g w) (D : WD h o A m c V W) (hA : apart f a b m A) {S : vw_s} (k0 : wsOk S) {c' : Nat} (hc : c' ≤ 10) {v : Nat} (hv : v < n) : MSE m_X8_orbitOf (d + 4) [.ref o, .ref f, .int (nI v)] (hW h A m c' S.2) (some (.int (nI (ob g n v S).2))) (hW h A m c' (ob g n v S).1.2) := by
  have hn := F.le
  have hg := F.2.2.2.2.2
  have F1 := F.hW D hA (c' := c') (W' := S.2)
  have D1 := D.upS k0 hc
  have k1 := k0.wf (n := n) hg (show v < 10 by omega)
  have hcm : comp g n v < 1024 := rc_lt hg (by omega)
  refine e_X8_orbitOf (b_X8_orbitOf_0 F1.1 (s_componentWith F1 (by omega)) D1.1 (s_wordS F D hA k0 hc hv) ?_)
  show SW none _ _ _ _ _ _ _ _ (rI (nI (obU g n (comp g n v) (wfX g n S v) (wfS g n S v) n).2) (hW h A m c' (obU g n (comp g n v) (wfX g n S v) (wfS g n S v) n).1.2))
  generalize comp g n v = s at hcm ⊢
  generalize wfX g n S v = x
  generalize wfS g n S v = S1 at k1 ⊢
  refine up_all (n := n) (T := fun k => a_X8_orbitOf_20 (d + 4) 0 0 o f (nI s) x (nI (obU g n s x S1 k).2) (nI k) (hW h A m c' (obU g n s x S1 k).1.2) (rI (nI (obU g n s x S1 n).2) (hW h A m c' (obU g n s x S1 n).1.2))) (fun k hk ih => ?_) ?_
  · obtain ⟨k2, ko⟩ := obU_ok (n := n) (s := s) (x := x) hg k1 k (by omega)
    have F3 := F.hW D hA (c' := c') (W' := (obU g n s x S1 k).1.2)
    have D3 := D.upS k2 hc
    have ih : a_X8_orbitOf_20 (d + 4) 0 0 o f (nI s) x (nI (obU g n s x S1 (k + 1)).2) (nI (k + 1)) (hW h A m c' (obU g n s x S1 (k + 1)).1.2) (rI (nI (obU g n s x S1 n).2) (hW h A m c' (obU g n s x S1 n).1.2)) := ih
    refine b_X8_orbitOf_20 F3.1 rfl (fun q => absurd q (nI_ge hk F.n31)) (fun _ => b_X8_orbitOf_29 (s_holds (by omega) (by omega)) (fun q => b_X8_orbitOf_59 ?_) (fun q => ?_))
    · rw [nI_1]
      have e : obU g n s x S1 (k + 1) = obU g n s x S1 k := if_neg (by rw [h01.mp q]; decide)
      rw [e] at ih; exact ih
    · have e : obU g n s x S1 (k + 1) = (wfS g n (obU g n s x S1 k).1 k, if wfX g n (obU g n s x S1 k).1 k = x then (obU g n s x S1 k).2 ||| 2 ^ k else (obU g n s x S1 k).2) := if_pos (tb_of q)
      rw [e] at ih
      refine b_X8_orbitOf_38 D3.1 (s_wordS F D hA k2 hc hk) (fun q2 => b_X8_orbitOf_59 ?_) (fun q2 => b_X8_orbitOf_50 (b_X8_orbitOf_59 ?_))
      · rw [nI_1]
        simp only [if_neg q2] at ih
        exact ih
      · rw [nI_1, i_shl1 (by omega), i_or]
        simp only [if_pos q2] at ih
        exact ih
  · have F3 := F.hW D hA (c' := c') (W' := (obU g n s x S1 n).1.2)
    exact b_X8_orbitOf_20 F3.1 rfl (fun _ => b_X8_orbitOf_65 ⟨rfl, rfl⟩) (fun q => absurd (nI_le (Nat.le_refl n) F.n31) q)
/-- behind symmetriesOf -/
def syS (g : Nat → Nat) (n l : Nat) (S : vw_s) : vw_s := wfS g n (ob g n l S).1 l
def syX (g : Nat → Nat) (n l : Nat) (S : vw_s) : Int32 := nI (pc (ob g n l S).2) * (syS g n l S).2 4 l
theorem s_symmetriesOf (F : FO h f a b n g w) (D : WD h o A m c V W) (hA : apart f a b m A) {S : vw_s} (k0 : wsOk S) {c' : Nat} (hc : c' ≤ 10) {s l : Nat} (hs : s < 1024) (hl : low s = some l) (hln : l < n) : MSE m_X8_symmetriesOf (d + 5) [.ref o, .ref f, .int (nI s)] (hW h A m c' S.2) (some (.int (syX g n l S))) (hW h A m c' (syS g n l S).2) := by
  have hn := F.le
  have hg := F.2.2.2.2.2
  have D1 := D.upS k0 hc
  have k1 := k0.wf (n := n) hg (show l < 10 by omega)
  obtain ⟨k2, ko⟩ := obU_ok (n := n) (s := comp g n l) (x := wfX g n S l) hg k1 n hn
  have k2 : wsOk (ob g n l S).1 := k2
  have D2 := D.upS k2 hc
  have k3 := k2.wf (n := n) hg (show l < 10 by omega)
  have D3 := D.upS k3 hc
  have m1 := s_lowest (d := d + 3) (h := hW h A m c' S.2) (s := s) (by omega)
  rw [hl] at m1
  refine e_X8_symmetriesOf (b_X8_symmetriesOf_0 (v2 := nI l) m1 (fun _ => ?_) (fun q => absurd q.symm (m1_ne hn l hln)))
  exact b_X8_symmetriesOf_12 D1.1 (s_orbitOf F D hA k0 hc hln) (s_bitCount ko) D2.1 (s_wordS F D hA k2 hc hln) D3.1 rfl (D3.row (by decide)) (nI_pos (by omega)) (by rw [cl_nI (by omega)]; exact ar_at _ (by omega)) ⟨rfl, rfl⟩
/-! words that were met, in one -/
def nq (q : Nat → Int32) (c : Nat) (x : Int32) : Nat → Int32 := if mt q c x = none then up1 q c x else q
def nc (q : Nat → Int32) (c : Nat) (x : Int32) : Nat := if mt q c x = none then c + 1 else c
def nv (q : Nat → Int32) (c : Nat) (x : Int32) : Nat := (mt q c x).getD c
theorem s_numberOfW (D : WD h o A m c V W) {S : vw_s} (k0 : wsOk S) {c' : Nat} (hc : c' < 10) {x : Int32} : MSE m_X4_numberOf d [.ref m, .int x] (hW h A m c' S.2) (some (.int (nI (nv (S.2 5) c' x)))) (hW h A m (nc (S.2 5) c' x) (up1 S.2 5 (nq (S.2 5) c' x))) := by
  have D1 := D.upS k0 (Nat.le_of_lt hc)
  have E : ME (hW h A m c' S.2) m (A 5) c' (S.2 5) := ⟨D1.2.1, D1.row (by decide), Nat.le_of_lt hc⟩
  cases hm : mt (S.2 5) c' x with
  | none =>
    have := s_numberOf0 (d := d) E hm hc
    unfold nv nc nq
    rw [if_pos hm, if_pos hm, hm]
    rw [D.set (by decide), D.setm] at this
    exact this
  | some i =>
    have := s_numberOf (d := d) E hm
    unfold nv nc nq
    rw [if_neg (by rw [hm]; simp), if_neg (by rw [hm]; simp), hm]
    have e : up1 S.2 5 (S.2 5) = S.2 := by
      funext j
      unfold up1; try dsimp only
      by_cases ej : j = 5
      · rw [if_pos ej, ej]
      · rw [if_neg ej]
    rw [e]
    exact this
/-- behind the classes of k components: the state, how many were met, the last one's number -/
def clU (g : Nat → Nat) (n : Nat) (S : vw_s) : Nat → vw_s × Nat × Int32
  | 0 => (S, 0, -1)
  | k + 1 => (((wo g n (cs g n (nI k)) (clU g n S k).1).1.1, up1 (wo g n (cs g n (nI k)) (clU g n S k).1).1.2 5 (nq ((wo g n (cs g n (nI k)) (clU g n S k).1).1.2 5) (clU g n S k).2.1 (wo g n (cs g n (nI k)) (clU g n S k).1).2)), nc ((wo g n (cs g n (nI k)) (clU g n S k).1).1.2 5) (clU g n S k).2.1 (wo g n (cs g n (nI k)) (clU g n S k).1).2, nI (nv ((wo g n (cs g n (nI k)) (clU g n S k).1).1.2 5) (clU g n S k).2.1 (wo g n (cs g n (nI k)) (clU g n S k).1).2))
theorem wsOk.up5 {S : vw_s} (k : wsOk S) {x : Nat → Int32} : wsOk (S.1, up1 S.2 5 x) := ⟨k.1, k.2⟩
theorem nc_le {q : Nat → Int32} {c : Nat} {x : Int32} : nc q c x ≤ c + 1 := by
  unfold nc; split <;> omega
def csOk (g : Nat → Nat) (n K : Nat) : Prop := ∀ k, k < K → ∃ l, low (cs g n (nI k)) = some l ∧ l < n
theorem clU_ok {g : Nat → Nat} {n : Nat} {S : vw_s} (hg : ∀ i, g i < 1024) (hn : n ≤ 10) (k0 : wsOk S) {K : Nat} (hk0 : csOk g n K) : ∀ k, k ≤ K → wsOk (clU g n S k).1 ∧ (clU g n S k).2.1 ≤ k
  | 0, _ => ⟨k0, Nat.le_refl _⟩
  | k + 1, hk => by
    have ih := clU_ok hg hn k0 hk0 k (by omega)
    obtain ⟨l, h1, h2⟩ := hk0 k (by omega)
    have h3 : (low (cs g n (nI k))).getD 0 < 10 := by rw [h1]; show l < 10; omega
    refine ⟨(wo_ok hg hn ih.1 h3).up5, Nat.le_trans nc_le ?_⟩
    have := ih.2
    omega
theorem s_classOf (F : FO h f a b n g w) (D : WD h o A m c V W) (hA : apart f a b m A) {K : Nat} (hK : K < 10) (hk0 : csOk g n (K + 1)) : MSE m_X8_classOf (d + 5) [.ref o, .ref f, .int (nI K)] h (some (.int (clU g n (V, W) (K + 1)).2.2)) (hW h A m (clU g n (V, W) (K + 1)).2.1 (clU g n (V, W) (K + 1)).1.2) := by
  have hn := F.le
  have hg := F.2.2.2.2.2
  have E : ME h m (A 5) c (W 5) := ⟨D.2.1, D.row (by decide), D.2.2.1⟩
  have e0 : h.set m (4, [.ref (A 5), .int (nI 0)]) = hW h A m 0 W := by
    have := D.setm (c' := c) (c2 := 0) (W' := W)
    rw [D.id] at this; exact this
  refine e_X8_classOf (b_X8_classOf_0 D.1 rfl D.2.1 (s_forget E) ?_)
  rw [e0]
  refine up_all (n := K + 1) (T := fun k => a_X8_classOf_12 (d + 5) 0 0 o f (nI K) (clU g n (V, W) k).2.2 (nI k) (hW h A m (clU g n (V, W) k).2.1 (clU g n (V, W) k).1.2) (rI (clU g n (V, W) (K + 1)).2.2 (hW h A m (clU g n (V, W) (K + 1)).2.1 (clU g n (V, W) (K + 1)).1.2))) (fun k hk ih => ?_) ?_
  · obtain ⟨k2, kc⟩ := clU_ok hg hn D.S hk0 k (by omega)
    obtain ⟨l, h1, h2⟩ := hk0 k hk
    have h3 : (low (cs g n (nI k))).getD 0 < 10 := by rw [h1]; show l < 10; omega
    have k3 := wo_ok hg hn k2 h3
    have F3 := F.hW D hA (c' := (clU g n (V, W) k).2.1) (W' := (clU g n (V, W) k).1.2)
    have D3 := D.upS k2 (show (clU g n (V, W) k).2.1 ≤ 10 by omega)
    have D4 := D.upS k3 (show (clU g n (V, W) k).2.1 ≤ 10 by omega)
    refine b_X8_classOf_12 (fun q => absurd q (nI_nlt (show k ≤ K by omega) (by omega))) (fun _ => b_X8_classOf_18 (fun q => absurd q (nI_ge (a := k) (b := 10) (by omega) (by decide))) (fun _ => b_X8_classOf_25 D3.1 rfl F3.1 (s_componentSet F3) D3.1 (s_wordOf F D hA k2 (by omega) (cs_lt hg hn) h1 h2) D4.2.1 (s_numberOfW D k3 (by omega)) ?_))
    rw [nI_1]
    exact ih
  · exact b_X8_classOf_12 (fun _ => b_X8_classOf_50 ⟨rfl, rfl⟩) (fun q => absurd (nI_lt (show K < K + 1 by omega) (by omega)) q)
end
