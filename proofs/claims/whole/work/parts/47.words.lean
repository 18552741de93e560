/-! rows of ten ints at the places A 0 .. -/
def hS (h : ab_H) (A : Nat → Nat) (W : Nat → Nat → Int32) : Nat → ab_H
  | 0 => h
  | k + 1 => (hS h A W k).set (A k) (100, ar 10 (W k))
theorem hS_len {h : ab_H} {A : Nat → Nat} {W : Nat → Nat → Int32} : ∀ k, (hS h A W k).length = h.length
  | 0 => rfl
  | k + 1 => by
    show ((hS h A W k).set _ _).length = _
    rw [List.length_set]; exact hS_len k
theorem hS_ne {h : ab_H} {A : Nat → Nat} {W : Nat → Nat → Int32} {x : Nat} : ∀ k, (∀ j, j < k → A j ≠ x) → (hS h A W k)[x]? = h[x]?
  | 0, _ => rfl
  | k + 1, hx => by
    show ((hS h A W k).set _ _)[x]? = _
    rw [hset_ne (hx k (by omega))]; exact hS_ne k (fun j hj => hx j (by omega))
theorem hS_at {h : ab_H} {A : Nat → Nat} {W : Nat → Nat → Int32} {K : Nat} (hi : ∀ i j, i < K → j < K → A i = A j → i = j) (hl : ∀ i, i < K → A i < h.length) : ∀ k, k ≤ K → ∀ j, j < k → (hS h A W k)[A j]? = some (100, ar 10 (W j))
  | 0, _, j, hj => absurd hj (Nat.not_lt_zero j)
  | k + 1, hk, j, hj => by
    show ((hS h A W k).set _ _)[A j]? = _
    by_cases e : j = k
    · rw [e]
      exact List.getElem?_set_self (by rw [hS_len]; exact hl k (by omega))
    · rw [hset_ne (fun q => e (hi k j (by omega) (by omega) q).symm)]
      exact hS_at hi hl k (by omega) j (by omega)
theorem hS_ext {h : ab_H} {A : Nat → Nat} {W : Nat → Nat → Int32} {K : Nat} (hi : ∀ i j, i < K → j < K → A i = A j → i = j) (hl : ∀ i, i < K → A i < h.length) {t : ab_H} (h1 : ∀ j, j < K → t[A j]? = some (100, ar 10 (W j))) (h2 : ∀ x, (∀ j, j < K → A j ≠ x) → t[x]? = h[x]?) : t = hS h A W K := by
  apply List.ext_getElem?
  intro x
  by_cases hx : ∃ j, j < K ∧ A j = x
  · obtain ⟨j, hj, rfl⟩ := hx
    rw [h1 j hj, hS_at hi hl K (Nat.le_refl _) j hj]
  · have : ∀ j, j < K → A j ≠ x := fun j hj e => hx ⟨j, hj, e⟩
    rw [h2 x this, hS_ne K this]
/-- words: the object o, its rows, what it met (m, c of them) -/
def hW (h : ab_H) (A : Nat → Nat) (m c : Nat) (W : Nat → Nat → Int32) : ab_H := hS (h.set m (4, [.ref (A 5), .int (nI c)])) A W 6
def WD (h : ab_H) (o : Nat) (A : Nat → Nat) (m c : Nat) (V : Nat → Nat) (W : Nat → Nat → Int32) : Prop :=
  h[o]? = some (8, [.ref (A 0), .ref (A 1), .ref (A 2), .ref (A 3), .ref (A 4), .ref m]) ∧ h[m]? = some (4, [.ref (A 5), .int (nI c)]) ∧ c ≤ 10 ∧ (∀ i, i < 6 → h[A i]? = some (100, ar 10 (W i))) ∧ (∀ i j, i < 6 → j < 6 → A i = A j → i = j) ∧ (W 0 = fun i => nI (V i)) ∧ ∀ i, V i < 1024
section
variable {d : Nat} {h : ab_H} {o m c : Nat} {A : Nat → Nat} {V : Nat → Nat} {W : Nat → Nat → Int32}
theorem WD.row (D : WD h o A m c V W) {i : Nat} (hi : i < 6) : h[A i]? = some (100, ar 10 (W i)) := D.2.2.2.1 i hi
theorem WD.inj (D : WD h o A m c V W) : ∀ i j, i < 6 → j < 6 → A i = A j → i = j := D.2.2.2.2.1
theorem WD.lt (D : WD h o A m c V W) {x : ab_H} (hx : x.length = h.length) : ∀ i, i < 6 → A i < x.length := fun i hi => by
  rw [hx]; exact (List.getElem?_eq_some_iff.mp (D.row hi)).1
theorem WD.no (D : WD h o A m c V W) {i : Nat} (hi : i < 6) : A i ≠ o := hk_ne (D.row hi) D.1 (by decide)
theorem WD.nm (D : WD h o A m c V W) {i : Nat} (hi : i < 6) : A i ≠ m := hk_ne (D.row hi) D.2.1 (by decide)
theorem WD.om (D : WD h o A m c V W) : o ≠ m := hk_ne D.1 D.2.1 (by decide)
theorem WD.at (D : WD h o A m c V W) {c' : Nat} {W' : Nat → Nat → Int32} {i : Nat} (hi : i < 6) : (hW h A m c' W')[A i]? = some (100, ar 10 (W' i)) :=
  hS_at D.inj (D.lt (List.length_set ..)) 6 (Nat.le_refl _) i hi
theorem WD.off (D : WD h o A m c V W) {c' : Nat} {W' : Nat → Nat → Int32} {x : Nat} (hx : ∀ i, i < 6 → A i ≠ x) (hm : m ≠ x) : (hW h A m c' W')[x]? = h[x]? := by
  unfold hW
  rw [hS_ne 6 hx, hset_ne hm]
theorem WD.mat (D : WD h o A m c V W) {c' : Nat} {W' : Nat → Nat → Int32} : (hW h A m c' W')[m]? = some (4, [.ref (A 5), .int (nI c')]) := by
  unfold hW
  rw [hS_ne 6 (fun i hi => D.nm hi)]
  exact hset_eq D.2.1
theorem WD.upd (D : WD h o A m c V W) {c' : Nat} {V' : Nat → Nat} {W' : Nat → Nat → Int32} (hc : c' ≤ 10) (h0 : W' 0 = fun i => nI (V' i)) (hV : ∀ i, V' i < 1024) : WD (hW h A m c' W') o A m c' V' W' :=
  ⟨by rw [D.off (fun i hi => D.no hi) (Ne.symm D.om)]; exact D.1, D.mat, hc, fun i hi => D.at hi, D.inj, h0, hV⟩
theorem WD.ext (D : WD h o A m c V W) {c' : Nat} {W' : Nat → Nat → Int32} {t : ab_H} (h1 : ∀ i, i < 6 → t[A i]? = some (100, ar 10 (W' i))) (h2 : t[m]? = some (4, [.ref (A 5), .int (nI c')])) (h3 : ∀ x, (∀ i, i < 6 → A i ≠ x) → m ≠ x → t[x]? = h[x]?) : t = hW h A m c' W' := by
  unfold hW
  refine hS_ext D.inj (D.lt (List.length_set ..)) h1 (fun x hx => ?_)
  by_cases e : m = x
  · rw [← e, h2]; exact (hset_eq D.2.1).symm
  · rw [hset_ne e]; exact h3 x hx e
theorem WD.id (D : WD h o A m c V W) : hW h A m c W = h := (D.ext (fun _ hi => D.row hi) D.2.1 (fun _ _ _ => rfl)).symm
theorem WD.set (D : WD h o A m c V W) {c' : Nat} {W' : Nat → Nat → Int32} {j : Nat} (hj : j < 6) {f : Nat → Int32} : (hW h A m c' W').set (A j) (100, ar 10 f) = hW h A m c' (up1 W' j f) := by
  refine D.ext (fun i hi => ?_) ?_ (fun x hx hm => ?_)
  · by_cases e : i = j
    · rw [e, up1_same]; exact hset_eq (D.at hj)
    · rw [hset_ne (fun q => e (D.inj j i hj hi q).symm), up1_ne _ _ e]; exact D.at hi
  · rw [hset_ne (D.nm hj)]; exact D.mat
  · rw [hset_ne (hx j hj)]; exact D.off hx hm
theorem WD.st (D : WD h o A m c V W) {j : Nat} (hj : j < 6) {f : Nat → Int32} : h.set (A j) (100, ar 10 f) = hW h A m c (up1 W j f) := by
  have := D.set (c' := c) (W' := W) hj (f := f)
  rw [D.id] at this; exact this
theorem WD.setm (D : WD h o A m c V W) {c' c2 : Nat} {W' : Nat → Nat → Int32} : (hW h A m c' W').set m (4, [.ref (A 5), .int (nI c2)]) = hW h A m c2 W' := by
  refine D.ext (fun i hi => ?_) (hset_eq D.mat) (fun x hx hm => ?_)
  · rw [hset_ne (Ne.symm (D.nm hi))]; exact D.at hi
  · rw [hset_ne hm]; exact D.off hx hm
theorem WD.again (D : WD h o A m c V W) {c' c2 : Nat} {W' W2 : Nat → Nat → Int32} : hW (hW h A m c' W') A m c2 W2 = hW h A m c2 W2 := by
  refine D.ext (fun i hi => ?_) ?_ (fun x hx hm => ?_)
  · exact hS_at D.inj (D.lt (by rw [List.length_set]; unfold hW; rw [hS_len, List.length_set])) 6 (Nat.le_refl _) i hi
  · show (hS _ A W2 6)[m]? = _
    rw [hS_ne 6 (fun i hi => D.nm hi)]
    exact hset_eq D.mat
  · show (hS _ A W2 6)[x]? = _
    rw [hS_ne 6 hx, hset_ne hm]; exact D.off hx hm
/-- a forest beside it -/
def apart (f a b m : Nat) (A : Nat → Nat) : Prop := ∀ i, i < 6 → A i ≠ f ∧ A i ≠ a ∧ A i ≠ b
theorem FO.hW {f a b n : Nat} {g w : Nat → Nat} (F : FO h f a b n g w) (D : WD h o A m c V W) (hA : apart f a b m A) {c' : Nat} {W' : Nat → Nat → Int32} : FO (hW h A m c' W') f a b n g w := by
  have hf : m ≠ f := hk_ne D.2.1 F.1 (by decide)
  have ha : m ≠ a := hk_ne D.2.1 F.2.1 (by decide)
  have hb : m ≠ b := hk_ne D.2.1 F.2.2.1 (by decide)
  exact ⟨by rw [D.off (fun i hi => (hA i hi).1) hf]; exact F.1, by rw [D.off (fun i hi => (hA i hi).2.1) ha]; exact F.2.1, by rw [D.off (fun i hi => (hA i hi).2.2) hb]; exact F.2.2.1, F.2.2.2⟩
/-- the vertex of a set with the least word -/
def lwU (x : Nat → Int32) (s : Nat) : Nat → Nat × Bool
  | 0 => (0, false)
  | k + 1 => if s.testBit k = true then (if (lwU x s k).2 = false then (k, true) else if x (lwU x s k).1 ≤ x k then lwU x s k else (k, true)) else lwU x s k
def lw (x : Nat → Int32) (s : Nat) : Nat := (lwU x s 10).1
theorem lwU_lt {x : Nat → Int32} {s : Nat} : ∀ k, k ≤ 10 → (lwU x s k).1 < 10
  | 0, _ => (by decide : 0 < 10)
  | k + 1, h => by
    have := lwU_lt (x := x) (s := s) k (by omega)
    unfold lwU
    split
    · split
      · show k < 10; omega
      · split
        · exact this
        · show k < 10; omega
    · exact this
theorem lw_lt {x : Nat → Int32} {s : Nat} : lw x s < 10 := lwU_lt 10 (Nat.le_refl _)
theorem s_leastWord (D : WD h o A m c V W) {s : Nat} (hs : s < 1024) : MSE m_X8_leastWord (d + 1) [.ref o, .int (nI s)] h (some (.int (nI (lw (W 1) s)))) h := by
  refine e_X8_leastWord (b_X8_leastWord_0 ?_)
  refine up_all (n := 10) (T := fun k => a_X8_leastWord_7 (d + 1) 0 0 o (nI s) (nI (lwU (W 1) s k).1) (nI (if (lwU (W 1) s k).2 = true then 1 else 0)) (nI k) h (rI (nI (lw (W 1) s)) h)) (fun k hk ih => ?_) ?_
  · have ih : a_X8_leastWord_7 (d + 1) 0 0 o (nI s) (nI (lwU (W 1) s (k + 1)).1) (nI (if (lwU (W 1) s (k + 1)).2 = true then 1 else 0)) (nI (k + 1)) h (rI (nI (lw (W 1) s)) h) := ih
    have hl := lwU_lt (x := W 1) (s := s) k (by omega)
    unfold lwU at ih
    refine b_X8_leastWord_7 (fun q => absurd q (nI_ge (a := k) (b := 10) hk (by decide))) (fun _ => b_X8_leastWord_14 (s_holds (by omega) (by omega)) (fun q => b_X8_leastWord_48 ?_) (fun q => b_X8_leastWord_23 (fun q2 => b_X8_leastWord_43 (b_X8_leastWord_48 ?_)) (fun q2 => b_X8_leastWord_27 D.1 rfl (D.row (by decide)) (nI_pos (by omega)) (by rw [cl_nI (by omega)]; exact ar_at _ hk) D.1 rfl (D.row (by decide)) (nI_pos (by omega)) (by rw [cl_nI (by omega)]; exact ar_at _ hl) (fun q3 => b_X8_leastWord_48 ?_) (fun q3 => b_X8_leastWord_43 (b_X8_leastWord_48 ?_)))))
    · rw [nI_1]
      rw [if_neg (by rw [h01.mp q]; decide)] at ih
      exact ih
    · rw [nI_1]
      rw [if_pos (tb_of q), if_pos (h01.mp q2)] at ih
      exact ih
    · rw [nI_1]
      rw [if_pos (tb_of q), if_neg (by rw [tb_of q2]; decide), if_pos q3] at ih
      exact ih
    · rw [nI_1]
      rw [if_pos (tb_of q), if_neg (by rw [tb_of q2]; decide), if_neg q3] at ih
      exact ih
  · exact b_X8_leastWord_7 (fun _ => b_X8_leastWord_54 ⟨rfl, rfl⟩) (fun q => absurd (nI_le (a := 10) (b := 10) (Nat.le_refl _) (by decide)) q)
/-- the levels from a root -/
def llV (g : Nat → Nat) (n : Nat) : Nat → (Nat → Nat) → Nat → Nat → Nat → (Nat → Nat)
  | 0, V, _, _, _ => V
  | j + 1, V, laid, level, k => if level = 0 then V else llV g n j (up1 V k level) (laid ||| level) (df (wn g n level) (laid ||| level)) (k + 1)
def llC (g : Nat → Nat) (n : Nat) : Nat → Nat → Nat → Nat → Nat
  | 0, _, _, k => k
  | j + 1, laid, level, k => if level = 0 then k else llC g n j (laid ||| level) (df (wn g n level) (laid ||| level)) (k + 1)
theorem llV_lt {g : Nat → Nat} {n : Nat} (hg : ∀ i, g i < 1024) : ∀ j (V : Nat → Nat) laid level k, (∀ i, V i < 1024) → level < 1024 → ∀ i, llV g n j V laid level k i < 1024
  | 0, _, _, _, _, hV, _ => hV
  | j + 1, V, laid, level, k, hV, hl => by
    unfold llV
    split
    · exact hV
    · exact llV_lt hg j _ _ _ _ (up_lt hV hl) (df_lt (k := 10) (wnU_lt hg hl n))
theorem llC_le {g : Nat → Nat} {n : Nat} : ∀ j laid level k, llC g n j laid level k ≤ k + j
  | 0, _, _, _ => Nat.le_refl _
  | j + 1, laid, level, k => by
    unfold llC
    split
    · omega
    · have := llC_le (g := g) (n := n) j (laid ||| level) (df (wn g n level) (laid ||| level)) (k + 1)
      omega
theorem s_layLevels {f a b n : Nat} {g w : Nat → Nat} (F : FO h f a b n g w) (D : WD h o A m c V W) (hA : apart f a b m A) {v : Nat} (hv : v < 10) : MSE m_X8_layLevels (d + 2) [.ref o, .ref f, .int (nI v)] h (some (.int (nI (llC g n 10 0 (2 ^ v) 0)))) (hW h A m c (up1 W 0 (fun i => nI (llV g n 10 V 0 (2 ^ v) 0 i)))) := by
  refine e_X8_layLevels (b_X8_layLevels_0 ?_)
  rw [i_shl1 (by omega)]
  have key : ∀ j (U : Nat → Nat) laid level k, k + j = 10 → (∀ i, U i < 1024) → level < 1024 → laid < 1024 → a_X8_layLevels_10 (d + 2) 0 0 o f (nI laid) (nI level) (nI k) (hW h A m c (up1 W 0 (fun i => nI (U i)))) (rI (nI (llC g n j laid level k)) (hW h A m c (up1 W 0 (fun i => nI (llV g n j U laid level k i))))) := by
    intro j
    induction j with
    | zero =>
      intro U laid level k hk hU hl hd
      have : k = 10 := by omega
      subst this
      exact b_X8_layLevels_10 (fun _ => b_X8_layLevels_54 ⟨rfl, rfl⟩) (fun _ => b_X8_layLevels_15 (fun _ => b_X8_layLevels_54 ⟨rfl, rfl⟩) (fun q => absurd (nI_le (a := 10) (b := 10) (Nat.le_refl _) (by decide)) q))
    | succ j ih =>
      intro U laid level k hk hU hl hd
      have D2 := D.upd (c' := c) (V' := U) (W' := up1 W 0 (fun i => nI (U i))) D.2.2.1 (up1_same _ _ _) hU
      have hU3 : ∀ i, up1 U k level i < 1024 := up_lt hU hl
      have D3 := D.upd (c' := c) (V' := up1 U k level) (W' := up1 W 0 (fun i => nI (up1 U k level i))) D.2.2.1 (up1_same _ _ _) hU3
      have e1 : (hW h A m c (up1 W 0 (fun i => nI (U i)))).set (A 0) (100, (ar 10 (up1 W 0 (fun i => nI (U i)) 0)).set (nI k).toNatClampNeg (.int (nI level))) = hW h A m c (up1 W 0 (fun i => nI (up1 U k level i))) := by
        rw [cl_nI (by omega), ar_set, D.set (by decide), up1_same]
        congr 1
        funext i
        unfold up1; try dsimp only
        by_cases e : i = 0
        · subst e
          simp only [if_true]
          funext j
          by_cases ej : j = k <;> simp [ej]
        · simp only [e, if_false]
      by_cases h0 : level = 0
      · subst h0
        unfold llC llV
        exact b_X8_layLevels_10 (fun _ => b_X8_layLevels_54 ⟨rfl, rfl⟩) (fun q => absurd rfl q)
      · refine b_X8_layLevels_10 (fun q => absurd ((i_eq0 (by omega)).mp q) h0) (fun _ => b_X8_layLevels_15 (fun q => absurd q (nI_ge (a := k) (b := 10) (by omega) (by decide))) (fun _ => ?_))
        refine b_X8_layLevels_22 D2.1 rfl (D2.row (by decide)) (nI_pos (by omega)) (by rw [cl_nI (by omega), ar_len]; omega) (by rw [e1]; exact (F.hW D hA).1) (by rw [e1]; exact s_withNeighbors (F.hW D hA) hl) ?_
        rw [nI_1, i_or, i_df]
        have := ih (up1 U k level) (laid ||| level) (df (wn g n level) (laid ||| level)) (k + 1) (by omega) hU3 (df_lt (k := 10) (wnU_lt F.2.2.2.2.2 hl n)) (or_lt hd hl)
        unfold llC llV
        rw [if_neg h0, if_neg h0]
        exact this
  have e0 : hW h A m c (up1 W 0 (fun i => nI (V i))) = h := by
    have : up1 W 0 (fun i => nI (V i)) = W := by
      funext i
      unfold up1; try dsimp only
      by_cases e : i = 0
      · rw [if_pos e, e]; exact D.2.2.2.2.2.1.symm
      · rw [if_neg e]
    rw [this]; exact D.id
  have := key 10 V 0 (2 ^ v) 0 (by omega) D.2.2.2.2.2.2 (pow_lt hv) (by decide)
  rw [e0] at this
  exact this
/-- a word from the words of the children -/
def asO (wo le wy lo : Int32) (i : Nat) : Int32 := if i = 1 then wo ||| (1 <<< ((19 - le) &&& 31)) else if i = 2 then le + 1 else if i = 3 then lo else wy
def asU (W : Nat → Nat → Int32) : Nat → Int32 → Int32 → Int32 → Int32 → Int32 → Int32 → Nat → (Nat → Int32)
  | 0, wo, le, wy, _, _, lo, _ => asO wo le wy lo
  | j + 1, wo, le, wy, fo, al, lo, s => if s = 0 then asO wo le wy lo else
    asU W j (wo ||| (W 1 (lw (W 1) s) >>> (le &&& 31))) (le + W 2 (lw (W 1) s)) (wy * ((if W 1 (lw (W 1) s) = fo then al + 1 else 1) * W 4 (lw (W 1) s))) (W 1 (lw (W 1) s)) (if W 1 (lw (W 1) s) = fo then al + 1 else 1) (if lo < W 2 (lw (W 1) s) then W 2 (lw (W 1) s) else lo) (df s (2 ^ lw (W 1) s))
def asW (W : Nat → Nat → Int32) (v : Nat) (x : Nat → Int32) : Nat → Nat → Int32 := up1 (up1 (up1 (up1 W 1 (up1 (W 1) v (x 1))) 2 (up1 (W 2) v (x 2))) 3 (up1 (W 3) v (x 3))) 4 (up1 (W 4) v (x 4))
def asm (W : Nat → Nat → Int32) (v ch : Nat) : Nat → Nat → Int32 := asW W v (asU W 10 0 1 1 (-1) 0 0 ch)
theorem asW_0 {W : Nat → Nat → Int32} {v : Nat} {x : Nat → Int32} : asW W v x 0 = W 0 := rfl
theorem s_asmEnd (D : WD h o A m c V W) {v : Nat} (hv : v < 10) (wo le wy lo : Int32) : SW none m_X8_assemble d 0 0 143 [some (.ref o), some (.int (nI v)), none, some (.int wo), some (.int le), some (.int wy), none, none, some (.int lo), none, none, none] [] h (rV (hW h A m c (asW W v (asO wo le wy lo)))) := by
  have x1 : asO wo le wy lo 1 = wo ||| (1 <<< ((19 - le) &&& 31)) := rfl
  have x2 : asO wo le wy lo 2 = le + 1 := rfl
  have x3 : asO wo le wy lo 3 = lo := rfl
  have x4 : asO wo le wy lo 4 = wy := rfl
  have e1 : h.set (A 1) (100, (ar 10 (W 1)).set (nI v).toNatClampNeg (.int (wo ||| (1 <<< ((19 - le) &&& 31))))) = hW h A m c (up1 W 1 (up1 (W 1) v (asO wo le wy lo 1))) := by
    rw [cl_nI (by omega), ar_set, D.st (by decide), x1]
  have D1 := D.upd (c' := c) (V' := V) (W' := up1 W 1 (up1 (W 1) v (asO wo le wy lo 1))) D.2.2.1 D.2.2.2.2.2.1 D.2.2.2.2.2.2
  have e2 : (hW h A m c (up1 W 1 (up1 (W 1) v (asO wo le wy lo 1)))).set (A 2) (100, (ar 10 (up1 W 1 (up1 (W 1) v (asO wo le wy lo 1)) 2)).set (nI v).toNatClampNeg (.int (le + 1))) = hW h A m c (up1 (up1 W 1 (up1 (W 1) v (asO wo le wy lo 1))) 2 (up1 (W 2) v (asO wo le wy lo 2))) := by
    rw [cl_nI (by omega), ar_set, D.set (by decide), x2]; rfl
  have D2 := D.upd (c' := c) (V' := V) (W' := up1 (up1 W 1 (up1 (W 1) v (asO wo le wy lo 1))) 2 (up1 (W 2) v (asO wo le wy lo 2))) D.2.2.1 D.2.2.2.2.2.1 D.2.2.2.2.2.2
  have e3 : (hW h A m c (up1 (up1 W 1 (up1 (W 1) v (asO wo le wy lo 1))) 2 (up1 (W 2) v (asO wo le wy lo 2)))).set (A 3) (100, (ar 10 (up1 (up1 W 1 (up1 (W 1) v (asO wo le wy lo 1))) 2 (up1 (W 2) v (asO wo le wy lo 2)) 3)).set (nI v).toNatClampNeg (.int lo)) = hW h A m c (up1 (up1 (up1 W 1 (up1 (W 1) v (asO wo le wy lo 1))) 2 (up1 (W 2) v (asO wo le wy lo 2))) 3 (up1 (W 3) v (asO wo le wy lo 3))) := by
    rw [cl_nI (by omega), ar_set, D.set (by decide), x3]; rfl
  have D3 := D.upd (c' := c) (V' := V) (W' := up1 (up1 (up1 W 1 (up1 (W 1) v (asO wo le wy lo 1))) 2 (up1 (W 2) v (asO wo le wy lo 2))) 3 (up1 (W 3) v (asO wo le wy lo 3))) D.2.2.1 D.2.2.2.2.2.1 D.2.2.2.2.2.2
  have hl : ∀ f : Nat → Int32, (nI v).toNatClampNeg < (ar 10 f).length := fun f => by rw [cl_nI (by omega), ar_len]; exact hv
  have hp : ¬ nI v < 0 := nI_pos (by omega)
  refine b_X8_assemble_143 D.1 rfl (D.row (by decide)) hp (hl _) (by rw [e1]; exact D1.1) rfl (by rw [e1]; exact D1.row (by decide)) hp (hl _) (by rw [e1, e2]; exact D2.1) rfl (by rw [e1, e2]; exact D2.row (by decide)) hp (hl _) (by rw [e1, e2, e3]; exact D3.1) rfl (by rw [e1, e2, e3]; exact D3.row (by decide)) hp (hl _) ⟨rfl, ?_⟩
  rw [e1, e2, e3, cl_nI (by omega), ar_set, D.set (by decide)]; rfl
theorem s_assemble (D : WD h o A m c V W) {v ch : Nat} (hv : v < 10) (hch : ch < 1024) : MSE m_X8_assemble (d + 2) [.ref o, .int (nI v), .int (nI ch)] h none (hW h A m c (asm W v ch)) := by
  refine e_X8_assemble (b_X8_assemble_0 ?_)
  have key : ∀ j k wo le wy fo al lo s, k + j = 10 → s < 1024 → a_X8_assemble_23 (d + 2) 0 0 o (nI v) wo le wy fo al lo (nI s) (nI k) h (rV (hW h A m c (asW W v (asU W j wo le wy fo al lo s)))) := by
    intro j
    induction j with
    | zero =>
      intro k wo le wy fo al lo s hk hs
      have : k = 10 := by omega
      subst this
      exact b_X8_assemble_23 (fun _ => s_asmEnd D hv wo le wy lo) (fun q => absurd (nI_le (a := 10) (b := 10) (Nat.le_refl _) (by decide)) q)
    | succ j ih =>
      intro k wo le wy fo al lo s hk hs
      have hl := lw_lt (x := W 1) (s := s)
      by_cases h0 : s = 0
      · subst h0
        unfold asU
        rw [if_pos rfl]
        exact b_X8_assemble_23 (fun _ => s_asmEnd D hv wo le wy lo) (fun _ => b_X8_assemble_30 (fun _ => s_asmEnd D hv wo le wy lo) (fun q => absurd rfl q))
      · unfold asU
        rw [if_neg h0]
        have hp : ¬ nI (lw (W 1) s) < 0 := nI_pos (by omega)
        have hg : ∀ f : Nat → Int32, (ar 10 f)[(nI (lw (W 1) s)).toNatClampNeg]? = some (.int (f (lw (W 1) s))) := fun f => by rw [cl_nI (by omega)]; exact ar_at _ hl
        have rest : ∀ al', al' = (if W 1 (lw (W 1) s) = fo then al + 1 else 1) → SW none m_X8_assemble (d + 2) 0 0 63 [some (.ref o), some (.int (nI v)), none, some (.int wo), some (.int le), some (.int wy), none, none, some (.int lo), some (.int (nI s)), some (.int (nI k)), some (.int (nI (lw (W 1) s)))] [.int al'] h (rV (hW h A m c (asW W v (asU W j (wo ||| (W 1 (lw (W 1) s) >>> (le &&& 31))) (le + W 2 (lw (W 1) s)) (wy * ((if W 1 (lw (W 1) s) = fo then al + 1 else 1) * W 4 (lw (W 1) s))) (W 1 (lw (W 1) s)) (if W 1 (lw (W 1) s) = fo then al + 1 else 1) (if lo < W 2 (lw (W 1) s) then W 2 (lw (W 1) s) else lo) (df s (2 ^ lw (W 1) s)))))) := by
          intro al' hal
          refine b_X8_assemble_63 D.1 rfl (D.row (by decide)) hp (hg _) D.1 rfl (D.row (by decide)) hp (hg _) D.1 rfl (D.row (by decide)) hp (hg _) D.1 rfl (D.row (by decide)) hp (hg _) D.1 rfl (D.row (by decide)) hp (hg _) (s_max _ _) (s_without (by omega)) ?_
          rw [nI_1, hal]
          exact ih (k + 1) _ _ _ _ _ _ _ (by omega) (df_lt (k := 10) hs)
        exact b_X8_assemble_23 (fun q => absurd q (nI_ge (a := k) (b := 10) (by omega) (by decide))) (fun _ => b_X8_assemble_30 (fun q => absurd ((i_eq0 (by omega)).mp q) h0) (fun _ => b_X8_assemble_35 D.1 (s_leastWord D hs) D.1 rfl (D.row (by decide)) hp (hg _) (fun q => b_X8_assemble_62 (rest _ (by rw [if_neg q]))) (fun q => b_X8_assemble_55 (rest _ (by rw [if_pos q])))))
  exact key 10 0 0 1 1 (-1) 0 0 ch (by omega) hch
/-- the words of a level -/
def wfV (g : Nat → Nat) (W : Nat → Nat → Int32) (lev below : Nat) : Nat → (Nat → Nat → Int32)
  | 0 => W
  | k + 1 => if lev.testBit k = true then asm (wfV g W lev below k) k (g k &&& below) else wfV g W lev below k
/-- of all levels, the last one first -/
def wfU (g : Nat → Nat) (n : Nat) (V : Nat → Nat) : Nat → (Nat → Nat → Int32) → Nat → (Nat → Nat → Int32)
  | 0, W, _ => W
  | k + 1, W, below => wfU g n V k (wfV g W (V k) below n) (V k)
theorem wfV_0 {g : Nat → Nat} {W : Nat → Nat → Int32} {lev below : Nat} : ∀ k, wfV g W lev below k 0 = W 0
  | 0 => rfl
  | k + 1 => by
    unfold wfV
    split
    · exact asW_0.trans (wfV_0 k)
    · exact wfV_0 k
theorem wfU_0 {g : Nat → Nat} {n : Nat} {V : Nat → Nat} : ∀ k (W : Nat → Nat → Int32) below, wfU g n V k W below 0 = W 0
  | 0, _, _ => rfl
  | k + 1, W, below => (wfU_0 k _ _).trans (wfV_0 n)
def wfL (g : Nat → Nat) (n : Nat) (V : Nat → Nat) (v : Nat) : Nat → Nat := llV g n 10 V 0 (2 ^ v) 0
def wfR (g : Nat → Nat) (n : Nat) (V : Nat → Nat) (W : Nat → Nat → Int32) (v : Nat) : Nat → Nat → Int32 := wfU g n (wfL g n V v) (llC g n 10 0 (2 ^ v) 0) (up1 W 0 (fun i => nI (wfL g n V v i))) 0
theorem wfL_lt {g : Nat → Nat} {n : Nat} (hg : ∀ i, g i < 1024) {V : Nat → Nat} (hV : ∀ i, V i < 1024) {v : Nat} (hv : v < 10) : ∀ i, wfL g n V v i < 1024 := llV_lt hg 10 V 0 _ 0 hV (pow_lt hv)
theorem wfR_0 {g : Nat → Nat} {n : Nat} {V : Nat → Nat} {W : Nat → Nat → Int32} {v : Nat} : wfR g n V W v 0 = fun i => nI (wfL g n V v i) := (wfU_0 _ _ _).trans (up1_same _ _ _)
theorem WD.wf (D : WD h o A m c V W) {g : Nat → Nat} {n : Nat} (hg : ∀ i, g i < 1024) {v : Nat} (hv : v < 10) : WD (hW h A m c (wfR g n V W v)) o A m c (wfL g n V v) (wfR g n V W v) := D.upd D.2.2.1 wfR_0 (wfL_lt hg D.2.2.2.2.2.2 hv)
theorem s_wordFrom {f a b n : Nat} {g w : Nat → Nat} (F : FO h f a b n g w) (D : WD h o A m c V W) (hA : apart f a b m A) {v : Nat} (hv : v < n) : MSE m_X8_wordFrom (d + 3) [.ref o, .ref f, .int (nI v)] h (some (.int (wfR g n V W v 1 v))) (hW h A m c (wfR g n V W v)) := by
  have hn := F.le
  have hg := F.2.2.2.2.2
  have hL := wfL_lt (n := n) hg D.2.2.2.2.2.2 (show v < 10 by omega)
  refine e_X8_wordFrom (b_X8_wordFrom_0 F.1 (s_isVertex F hv) (fun _ => b_X8_wordFrom_10 D.1 (s_layLevels F D hA (by omega)) ?_) (fun q => absurd q (by decide)))
  have hC := llC_le (g := g) (n := n) 10 0 (2 ^ v) 0
  have key : ∀ k (U : Nat → Nat → Int32) below, k ≤ 10 → below < 1024 → (U 0 = fun i => nI (wfL g n V v i)) → a_X8_wordFrom_22 (d + 3) 0 0 o f (nI v) (nI below) (nI k - 1) (hW h A m c U) (rI (wfU g n (wfL g n V v) k U below 1 v) (hW h A m c (wfU g n (wfL g n V v) k U below))) := by
    intro k
    induction k with
    | zero =>
      intro U below hk hb h0
      have D2 := D.upd (c' := c) D.2.2.1 h0 hL
      exact b_X8_wordFrom_22 (fun _ => b_X8_wordFrom_88 D2.1 rfl (D2.row (by decide)) (nI_pos (by omega)) (by rw [cl_nI (by omega)]; exact ar_at _ (by omega)) ⟨rfl, rfl⟩) (fun q => absurd (show nI 0 - 1 < 0 by decide) q)
    | succ k ih =>
      intro U below hk hb h0
      rw [nI_pred]
      have hU0 : ∀ j, wfV g U (wfL g n V v k) below j 0 = fun i => nI (wfL g n V v i) := fun j => (wfV_0 j).trans h0
      have hr0 : ∀ j, (ar 10 (wfV g U (wfL g n V v k) below j 0))[(nI k).toNatClampNeg]? = some (.int (nI (wfL g n V v k))) := fun j => by
        rw [cl_nI (by omega), hU0 j]; exact ar_at _ (by omega)
      have hLk := hL k
      refine b_X8_wordFrom_22 (fun q => absurd q (nI_pos (by omega))) (fun _ => b_X8_wordFrom_27 ?_)
      refine up_all (n := n) (T := fun j => a_X8_wordFrom_30 (d + 3) 0 0 o f (nI v) (nI below) (nI k) (nI j) (hW h A m c (wfV g U (wfL g n V v k) below j)) (rI (wfU g n (wfL g n V v) (k + 1) U below 1 v) (hW h A m c (wfU g n (wfL g n V v) (k + 1) U below)))) (fun j hj ih2 => ?_) ?_
      · have F2 := F.hW D hA (c' := c) (W' := wfV g U (wfL g n V v k) below j)
        have D2 := D.upd (c' := c) D.2.2.1 (hU0 j) hL
        have ih2 : a_X8_wordFrom_30 (d + 3) 0 0 o f (nI v) (nI below) (nI k) (nI (j + 1)) (hW h A m c (wfV g U (wfL g n V v k) below (j + 1))) (rI (wfU g n (wfL g n V v) (k + 1) U below 1 v) (hW h A m c (wfU g n (wfL g n V v) (k + 1) U below))) := ih2
        refine b_X8_wordFrom_30 F2.1 rfl (fun q => absurd q (nI_ge hj F.n31)) (fun _ => b_X8_wordFrom_39 D2.1 rfl (D2.row (by decide)) (nI_pos (by omega)) (hr0 j) (s_holds (by omega) (by omega)) (fun q => b_X8_wordFrom_68 ?_) (fun q => b_X8_wordFrom_54 F2.1 (s_nearOf F2 (by omega)) D2.1 (by rw [i_and]; exact s_assemble D2 (by omega) (and_lt (hg j))) (b_X8_wordFrom_68 ?_)))
        · rw [nI_1]
          have e : wfV g U (wfL g n V v k) below (j + 1) = wfV g U (wfL g n V v k) below j := if_neg (by rw [h01.mp q]; decide)
          rw [e] at ih2; exact ih2
        · rw [nI_1, D.again]
          have e : wfV g U (wfL g n V v k) below (j + 1) = asm (wfV g U (wfL g n V v k) below j) j (g j &&& below) := if_pos (tb_of q)
          rw [e] at ih2; exact ih2
      · have F2 := F.hW D hA (c' := c) (W' := wfV g U (wfL g n V v k) below n)
        have D2 := D.upd (c' := c) D.2.2.1 (hU0 n) hL
        have e2 : nI k + (-1) = nI k - 1 := (Int32.sub_eq_add_neg _ _).symm
        refine b_X8_wordFrom_30 F2.1 rfl (fun _ => b_X8_wordFrom_74 D2.1 rfl (D2.row (by decide)) (nI_pos (by omega)) (hr0 n) ?_) (fun q => absurd (nI_le (Nat.le_refl n) F.n31) q)
        rw [e2]
        exact ih (wfV g U (wfL g n V v k) below n) (wfL g n V v k) (by omega) (hL k) (hU0 n)
  exact key (llC g n 10 0 (2 ^ v) 0) (up1 W 0 (fun i => nI (wfL g n V v i))) 0 (by omega) (by decide) (up1_same _ _ _)
end
