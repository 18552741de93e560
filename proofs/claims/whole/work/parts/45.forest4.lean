theorem hk_ne {h : ab_H} {x y c c' : Nat} {fs gs : List Value} (h1 : h[x]? = some (c, fs)) (h2 : h[y]? = some (c', gs)) (hn : c ≠ c') : x ≠ y := fun e => by
  subst e
  rw [h1] at h2
  exact hn (congrArg Prod.fst (Option.some.inj h2))
theorem iO_none {o : Option Nat} (h : ∀ k, o = some k → k < 2147483648) : iO o = -1 ↔ o = none := by
  cases o with
  | none => exact ⟨fun _ => rfl, fun _ => rfl⟩
  | some k =>
    refine ⟨fun q => ?_, fun q => by cases q⟩
    have hk := h k rfl
    have q : nI k = -1 := q
    exact absurd (nI_pos hk) (by rw [q]; decide)
theorem iO_inj {o o' : Option Nat} (h : ∀ k, o = some k → k < 2147483648) (h' : ∀ k, o' = some k → k < 2147483648) : iO o = iO o' ↔ o = o' := by
  refine ⟨fun q => ?_, fun q => by rw [q]⟩
  cases o with
  | none => exact ((iO_none h').mp q.symm).symm
  | some k =>
    cases o' with
    | none => exact (iO_none h).mp q
    | some k' =>
      have q : nI k = nI k' := q
      rw [(i_eq (h k rfl) (h' k' rfl)).mp q]
theorem dsU_lt {g : Nat → Nat} {n b : Nat} : ∀ j k s r, dsU g n b j k s = some r → k ≤ r ∧ r < k + j
  | 0, _, _, _, q => by cases q
  | j + 1, k, s, r, q => by
    unfold dsU at q
    split at q
    · cases q; omega
    · have := dsU_lt j (k + 1) _ r q
      omega
theorem ds_lt {g : Nat → Nat} {n a b r : Nat} (q : ds g n a b = some r) : r < n := by
  have := (dsU_lt n 0 _ r q).2
  omega
theorem low_lt {s v : Nat} (q : low s = some v) : v < 10 := List.mem_range.mp (List.mem_of_find?_eq_some q)
theorem low_bit {s v : Nat} (q : low s = some v) : s.testBit v = true := List.find?_some (p := fun i => s.testBit i) q
theorem find_none {p : Nat → Bool} {n : Nat} (hn : ∀ k, k < n → p k = false) : (List.range n).find? p = none := by
  rw [List.find?_eq_none]
  intro j hj
  rw [hn j (List.mem_range.mp hj)]; decide
/-- a loop that looks for the first vertex with a property -/
theorem look_for {p : Nat → Bool} {n : Nat} {r : Option Nat} {T : Nat → Prop} (hr : r = (List.range n).find? p)
    (hs : ∀ k, k < n → (p k = true → r = some k) → (p k = false → T (k + 1)) → T k) (hn : r = none → T n) : T 0 := by
  have key := up_all (n := n) (T := fun k => (∀ j, j < k → p j = false) → T k) (fun k hk ih hz => ?_) (fun hz => hn (by rw [hr]; exact find_none hz))
  · exact key (fun j hj => absurd hj (Nat.not_lt_zero j))
  · refine hs k hk (fun q => by rw [hr]; exact find_range hk q hz) (fun q => ih (fun j hj => ?_))
    rcases Nat.lt_succ_iff_lt_or_eq.mp hj with h1 | h1
    · exact hz j h1
    · rw [h1]; exact q
/-- the vertices between two others -/
def ps (g : Nat → Nat) (n a b : Nat) : Nat := if ds g n a b = none then 0 else stU (fun v => decide (iO (ds g n a v) + iO (ds g n v b) = iO (ds g n a b))) n
theorem ps_lt {g : Nat → Nat} {n a b : Nat} (hn : n ≤ 10) : ps g n a b < 1024 := by
  unfold ps; split
  · decide
  · exact stU_lt n hn
/-- how many below k have a property -/
def cnU (p : Nat → Bool) : Nat → Nat
  | 0 => 0
  | k + 1 => if p k = true then cnU p k + 1 else cnU p k
theorem cnU_s {p : Nat → Bool} {k : Nat} : cnU p (k + 1) = if p k = true then cnU p k + 1 else cnU p k := rfl
theorem cnU_le {p : Nat → Bool} : ∀ k, cnU p k ≤ k
  | 0 => Nat.le_refl _
  | k + 1 => by
    have := cnU_le (p := p) k
    unfold cnU; split <;> omega
/-- the set of the component with the number x -/
def csU (g : Nat → Nat) (n : Nat) (x : Int32) : Nat → Nat → Nat → Nat → Nat
  | 0, _, _, _ => 0
  | j + 1, v, left, met => if left.testBit v = true then (if nI met = x then comp g n v else csU g n x j (v + 1) (df left (comp g n v)) (met + 1)) else csU g n x j (v + 1) left met
def cs (g : Nat → Nat) (n : Nat) (x : Int32) : Nat := csU g n x n 0 (al n) 0
theorem csU_lt {g : Nat → Nat} {n : Nat} {x : Int32} (hg : ∀ i, g i < 1024) (hn : n ≤ 10) : ∀ j v left met, v + j = n → csU g n x j v left met < 1024
  | 0, _, _, _, _ => (by decide : 0 < 1024)
  | j + 1, v, left, met, h => by
    unfold csU
    split
    · split
      · exact rc_lt hg (by omega)
      · exact csU_lt hg hn j (v + 1) _ _ (by omega)
    · exact csU_lt hg hn j (v + 1) _ _ (by omega)
theorem cs_lt {g : Nat → Nat} {n : Nat} {x : Int32} (hg : ∀ i, g i < 1024) (hn : n ≤ 10) : cs g n x < 1024 := csU_lt hg hn n 0 _ _ (by omega)
/-- a round of pruning -/
def dlU (L : Nat) (g : Nat → Nat) : Nat → Nat → Nat
  | 0 => g
  | k + 1 => if L.testBit k = true then (match low (dlU L g k k) with
    | some u => pt (dlU L g k) k u
    | none => dlU L g k) else dlU L g k
def lv (g : Nat → Nat) (n : Nat) : Nat := stU (fun v => (al n).testBit v && decide (pc (g v) = 1)) n
def dl (g : Nat → Nat) (n : Nat) : Nat → Nat := dlU (lv g n) g n
theorem pt_lt2 {g : Nat → Nat} {u v n : Nat} (hg : ∀ j, g j < 2 ^ n) : ∀ j, pt g u v j < 2 ^ n :=
  up_lt (up_lt hg (df_lt (hg u))) (df_lt (up_lt hg (df_lt (hg u)) v))
theorem dlU_lt {g : Nat → Nat} {L n : Nat} (hg : ∀ j, g j < 2 ^ n) : ∀ k j, dlU L g k j < 2 ^ n
  | 0 => hg
  | k + 1 => by
    unfold dlU
    split
    · cases low (dlU L g k k) with
      | some u => exact pt_lt2 (dlU_lt hg k)
      | none => exact dlU_lt hg k
    · exact dlU_lt hg k
theorem pow_le10 {n : Nat} (hn : n ≤ 10) : 2 ^ n ≤ 1024 := (Nat.pow_le_pow_right (by decide) hn : 2 ^ n ≤ 2 ^ 10)
/-- a and b change their places -/
def exU (a b : Nat) (g : Nat → Nat) : Nat → Nat → Nat
  | 0 => g
  | k + 1 => if (exU a b g k k).testBit a = (exU a b g k k).testBit b then exU a b g k else up1 (exU a b g k) k (exU a b g k k ^^^ (2 ^ a ||| 2 ^ b))
def xg (g : Nat → Nat) (n a b : Nat) : Nat → Nat := up1 (up1 (exU a b g n) a (exU a b g n b)) b (exU a b g n a)
theorem xor_lt {x y : Nat} (hx : x < 1024) (hy : y < 1024) : x ^^^ y < 1024 := Nat.xor_lt_two_pow (n := 10) hx hy
theorem exU_lt {a b : Nat} {g : Nat → Nat} (hg : ∀ j, g j < 1024) (ha : a < 10) (hb : b < 10) : ∀ k j, exU a b g k j < 1024
  | 0 => hg
  | k + 1 => by
    unfold exU
    split
    · exact exU_lt hg ha hb k
    · exact up_lt (exU_lt hg ha hb k) (xor_lt (exU_lt hg ha hb k k) (or_lt (pow_lt ha) (pow_lt hb)))
theorem xg_lt {g : Nat → Nat} {n a b : Nat} (hg : ∀ j, g j < 1024) (ha : a < 10) (hb : b < 10) : ∀ j, xg g n a b j < 1024 :=
  up_lt (up_lt (exU_lt hg ha hb n) (exU_lt hg ha hb n b)) (exU_lt hg ha hb n a)
theorem i_xor (a b : Nat) : nI a ^^^ nI b = nI (a ^^^ b) := by
  apply Int32.toBitVec_inj.1
  show BitVec.ofNat 32 a ^^^ BitVec.ofNat 32 b = BitVec.ofNat 32 (a ^^^ b)
  apply BitVec.eq_of_getLsbD_eq
  intro i hi
  simp [hi]
theorem b01 {a b : Bool} : nI (if a = true then 1 else 0) = nI (if b = true then 1 else 0) ↔ a = b := by cases a <;> cases b <;> decide
/-- a saved row -/
def sv (g w : Nat → Nat) (i : Nat) : Nat := if i < 10 then g i else w (i - 10)
theorem c0 : (0 : Int32).toNatClampNeg = 0 := by decide
theorem c10 : (10 : Int32).toNatClampNeg = 10 := by decide
theorem cpy10 {f g : Nat → Int32} : ab_cpyL (ar 10 f) (ar 10 g) (0 : Int32).toNatClampNeg (0 : Int32).toNatClampNeg (10 : Int32).toNatClampNeg = ar 10 f := by
  rw [c0, c10, ar_cpy f g (by omega)]
  exact ar_ext (fun i hi => by rw [if_pos ⟨Nat.zero_le _, by omega⟩, Nat.sub_zero, Nat.zero_add])
section
variable {d : Nat} {h : ab_H} {f a b n : Nat} {g w : Nat → Nat}
theorem s_pathSet (F : FO h f a b n g w) {u v : Nat} (hu : u < 10) (hv : v < 10) : MSE m_X3_pathSet (d + 3) [.ref f, .int (nI u), .int (nI v)] h (some (.int (nI (ps g n u v)))) h := by
  have hn := F.le
  refine e_X3_pathSet (b_X3_pathSet_0 F.1 (s_steps F hu hv) ?_)
  obtain ⟨p, hp⟩ : ∃ p : Nat → Bool, p = fun x => decide (iO (ds g n u x) + iO (ds g n x v) = iO (ds g n u v)) := ⟨_, rfl⟩
  have hl : ∀ k, ds g n u v = some k → k < 2147483648 := fun k q => by have := ds_lt q; omega
  by_cases h0 : ds g n u v = none
  · have e0 : ps g n u v = 0 := if_pos h0
    rw [e0]
    refine b_X3_pathSet_13 F.1 rfl (fun _ => b_X3_pathSet_61 ⟨rfl, rfl⟩) (fun _ => b_X3_pathSet_22 (fun _ => b_X3_pathSet_61 ⟨rfl, rfl⟩) (fun q => absurd ((iO_none hl).mpr h0) q))
  · have e0 : ps g n u v = stU p n := by unfold ps; rw [if_neg h0, hp]
    rw [e0]
    refine up_all (n := n) (T := fun k => a_X3_pathSet_13 (d + 3) 0 0 f (nI u) (nI v) (iO (ds g n u v)) (nI (stU p k)) (nI k) h (rI (nI (stU p n)) h)) (fun k hk ih => ?_) ?_
    · have ih : a_X3_pathSet_13 (d + 3) 0 0 f (nI u) (nI v) (iO (ds g n u v)) (nI (stU p (k + 1))) (nI (k + 1)) h (rI (nI (stU p n)) h) := ih
      have hpk : p k = decide (iO (ds g n u k) + iO (ds g n k v) = iO (ds g n u v)) := by rw [hp]
      rw [stU_s] at ih
      refine b_X3_pathSet_13 F.1 rfl (fun q => absurd q (nI_ge hk F.n31)) (fun _ => b_X3_pathSet_22 (fun q => absurd ((iO_none hl).mp q) h0) (fun _ => b_X3_pathSet_27 F.1 (s_steps F hu (by omega)) F.1 (s_steps F (by omega) hv) (fun q => b_X3_pathSet_55 ?_) (fun q => b_X3_pathSet_46 (b_X3_pathSet_55 ?_))))
      · rw [nI_1]
        rw [if_neg (by rw [hpk, decide_eq_false q]; decide)] at ih
        exact ih
      · rw [nI_1, i_shl1 (by omega), i_or]
        rw [if_pos (by rw [hpk, decide_eq_true q])] at ih
        exact ih
    · exact b_X3_pathSet_13 F.1 rfl (fun _ => b_X3_pathSet_61 ⟨rfl, rfl⟩) (fun q => absurd (nI_le (Nat.le_refl n) F.n31) q)
/-- the vertex of the path at a step -/
def pv (g : Nat → Nat) (n u v : Nat) (x : Int32) : Option Nat := (List.range n).find? (fun k => (ps g n u v).testBit k && decide (iO (ds g n u k) = x))
theorem s_pathVertex (F : FO h f a b n g w) {u v : Nat} (hu : u < 10) (hv : v < 10) {x : Int32} : MSE m_X3_pathVertex (d + 4) [.ref f, .int (nI u), .int (nI v), .int x] h (some (.int (iO (pv g n u v x)))) h := by
  have hn := F.le
  have hps := ps_lt (g := g) (a := u) (b := v) hn
  refine e_X3_pathVertex (b_X3_pathVertex_0 F.1 (s_pathSet F hu hv) ?_)
  refine look_for (r := pv g n u v x) (T := fun k => a_X3_pathVertex_11 (d + 4) 0 0 f (nI u) x (nI (ps g n u v)) (nI k) h (rI (iO (pv g n u v x)) h)) rfl (fun k hk h1 ih => ?_) (fun hz => ?_)
  · refine b_X3_pathVertex_11 F.1 rfl (fun q => absurd q (nI_ge hk F.n31)) (fun _ => b_X3_pathVertex_20 (s_holds (by omega) (by omega)) (fun q => b_X3_pathVertex_44 ?_) (fun q => b_X3_pathVertex_30 F.1 (s_steps F hu (by omega)) (fun q2 => b_X3_pathVertex_44 ?_) (fun q2 => b_X3_pathVertex_41 ⟨?_, rfl⟩)))
    · rw [nI_1]
      exact ih (by rw [h01.mp q]; rfl)
    · rw [nI_1]
      exact ih (by rw [decide_eq_false q2, Bool.and_false])
    · rw [h1 (by rw [tb_of q, decide_eq_true q2]; rfl)]; rfl
  · rw [hz]
    exact b_X3_pathVertex_11 F.1 rfl (fun _ => b_X3_pathVertex_50 ⟨rfl, rfl⟩) (fun q => absurd (nI_le (Nat.le_refl n) F.n31) q)
theorem s_componentSet (F : FO h f a b n g w) {x : Int32} : MSE m_X3_componentSet (d + 4) [.ref f, .int x] h (some (.int (nI (cs g n x)))) h := by
  have hn := F.le
  refine e_X3_componentSet (b_X3_componentSet_0 F.1 (s_all F) ?_)
  have key : ∀ j k left met, k + j = n → left < 1024 → a_X3_componentSet_10 (d + 4) 0 0 f x (nI left) (nI met) (nI k) h (rI (nI (csU g n x j k left met)) h) := by
    intro j
    induction j with
    | zero =>
      intro k left met hk hl
      exact b_X3_componentSet_10 F.1 rfl (fun _ => b_X3_componentSet_60 ⟨rfl, rfl⟩) (fun q => absurd (nI_le (show n ≤ k by omega) (by omega)) q)
    | succ j ih =>
      intro k left met hk hl
      unfold csU
      refine b_X3_componentSet_10 F.1 rfl (fun q => absurd q (nI_ge (show k < n by omega) F.n31)) (fun _ => b_X3_componentSet_19 (s_holds (by omega) (by omega)) (fun q => b_X3_componentSet_54 ?_) (fun q => b_X3_componentSet_28 F.1 (s_componentWith F (by omega)) (fun q2 => b_X3_componentSet_44 (b_X3_componentSet_54 ?_)) (fun q2 => b_X3_componentSet_41 ⟨?_, rfl⟩)))
      · rw [nI_1, if_neg (by rw [h01.mp q]; decide)]
        exact ih (k + 1) _ _ (by omega) hl
      · rw [nI_1, nI_1, i_df, if_pos (tb_of q), if_neg q2]
        exact ih (k + 1) _ _ (by omega) (df_lt (k := 10) hl)
      · rw [if_pos (tb_of q), if_pos q2]
  exact key n 0 _ 0 (by omega) (al_lt hn)
def isR (g : Nat → Nat) (n v : Nat) : Bool := decide (low (comp g n v) = some v)
theorem s_componentNumber (F : FO h f a b n g w) {v l : Nat} (hv : v < n) (hl : low (comp g n v) = some l) : MSE m_X3_componentNumber (d + 4) [.ref f, .int (nI v)] h (some (.int (nI (cnU (isR g n) l)))) h := by
  have hn := F.le
  have hl10 := low_lt hl
  have hc : ∀ u, u < 10 → comp g n u < 1024 := fun u hu => rc_lt F.2.2.2.2.2 hu
  have e1 := s_lowest (d := d + 2) (h := h) (s := comp g n v) (by have := hc v (by omega); omega)
  rw [hl] at e1
  refine e_X3_componentNumber (b_X3_componentNumber_0 F.1 (s_componentWith F (by omega)) e1 ?_)
  refine up_all (n := l) (T := fun k => a_X3_componentNumber_14 (d + 4) 0 0 f (nI l) (nI (cnU (isR g n) k)) (nI k) h (rI (nI (cnU (isR g n) l)) h)) (fun k hk ih => ?_) ?_
  · have ih : a_X3_componentNumber_14 (d + 4) 0 0 f (nI l) (nI (cnU (isR g n) (k + 1))) (nI (k + 1)) h (rI (nI (cnU (isR g n) l)) h) := ih
    rw [cnU_s] at ih
    have e2 : ∀ k', low (comp g n k) = some k' → k' < 2147483648 := fun k' q => by have := low_lt q; omega
    refine b_X3_componentNumber_14 (fun q => absurd q (nI_ge hk (by omega))) (fun _ => b_X3_componentNumber_20 F.1 (s_componentWith F (by omega)) (s_lowest (by have := hc k (by omega); omega)) (fun q => b_X3_componentNumber_37 ?_) (fun q => b_X3_componentNumber_34 (b_X3_componentNumber_37 ?_)))
    · rw [nI_1]
      rw [if_neg (by
        unfold isR
        rw [decide_eq_false (fun e => q (by rw [e]; rfl))]; decide)] at ih
      exact ih
    · rw [nI_1, nI_1]
      rw [if_pos (by
        unfold isR
        exact decide_eq_true ((iO_inj e2 (o' := some k) (fun k' q => by cases q; omega)).mp q))] at ih
      exact ih
  · exact b_X3_componentNumber_14 (fun _ => b_X3_componentNumber_43 ⟨rfl, rfl⟩) (fun q => absurd (nI_le (Nat.le_refl l) (by omega)) q)
theorem s_dropLeaves (F : FO h f a b n g w) (hg : ∀ j, g j < 2 ^ n) : MSE m_X3_dropLeaves (d + 2) [.ref f] h none (h.set a (100, ar 10 (fun i => nI (dl g n i)))) := by
  have hn := F.le
  have hL : lv g n < 1024 := stU_lt n hn
  have hlt : ∀ k j, dlU (lv g n) g k j < 2 ^ n := dlU_lt hg
  have hlt2 : ∀ k j, dlU (lv g n) g k j < 1024 := fun k j => Nat.lt_of_lt_of_le (hlt k j) (pow_le10 hn)
  refine e_X3_dropLeaves (b_X3_dropLeaves_0 F.1 (s_all F) F.1 (s_setOfDegree (k0 := 1) F (al_lt hn) (by decide)) ?_)
  have key := up_all (n := n) (T := fun k => a_X3_dropLeaves_12 (d + 2) 0 0 f (nI (lv g n)) (nI k) (h.set a (100, ar 10 (fun i => nI (dlU (lv g n) g k i)))) (rV (h.set a (100, ar 10 (fun i => nI (dl g n i)))))) (fun k hk ih => ?_) ?_
  · have e0 : h.set a (100, ar 10 (fun i => nI (dlU (lv g n) g 0 i))) = h := hset_id F.2.1
    rw [e0] at key
    exact key
  · have F2 := F.near (hlt2 k)
    have ih : a_X3_dropLeaves_12 (d + 2) 0 0 f (nI (lv g n)) (nI (k + 1)) (h.set a (100, ar 10 (fun i => nI (dlU (lv g n) g (k + 1) i)))) (rV (h.set a (100, ar 10 (fun i => nI (dl g n i))))) := ih
    refine b_X3_dropLeaves_12 F2.1 rfl (fun q => absurd q (nI_ge hk F.n31)) (fun _ => b_X3_dropLeaves_20 (s_holds (by omega) (by omega)) (fun q => b_X3_dropLeaves_42 ?_) (fun q => ?_))
    · rw [nI_1]
      have e : dlU (lv g n) g (k + 1) = dlU (lv g n) g k := by
        show (if (lv g n).testBit k = true then _ else dlU (lv g n) g k) = _
        rw [if_neg (by rw [h01.mp q]; decide)]
      rw [e] at ih; exact ih
    · cases hlo : low (dlU (lv g n) g k k) with
      | none =>
        have e1 := s_lowest (d := d) (h := h.set a (100, ar 10 (fun i => nI (dlU (lv g n) g k i)))) (s := dlU (lv g n) g k k) (by have := hlt2 k k; omega)
        rw [hlo] at e1
        refine b_X3_dropLeaves_28 F2.1 rfl F2.2.1 (nI_pos (by omega)) (by rw [nI_cl hk hn]; exact ar_at _ (by omega)) e1 F2.1 (s_part0 F2 hk (fun v hv q2 => absurd q2.symm (fun q3 => absurd ((iO_none (o := some v) (fun k' q4 => by cases q4; omega)).mp q3) (by simp)))) (b_X3_dropLeaves_42 ?_)
        rw [nI_1]
        have e : dlU (lv g n) g (k + 1) = dlU (lv g n) g k := by
          show (if (lv g n).testBit k = true then (match low (dlU (lv g n) g k k) with
            | some u => pt (dlU (lv g n) g k) k u
            | none => dlU (lv g n) g k) else dlU (lv g n) g k) = _
          rw [if_pos (tb_of q), hlo]
        rw [e] at ih; exact ih
      | some u =>
        have hu : u < n := bit_lt (hlt k k) (low_bit hlo)
        have e1 := s_lowest (d := d) (h := h.set a (100, ar 10 (fun i => nI (dlU (lv g n) g k i)))) (s := dlU (lv g n) g k k) (by have := hlt2 k k; omega)
        rw [hlo] at e1
        refine b_X3_dropLeaves_28 F2.1 rfl F2.2.1 (nI_pos (by omega)) (by rw [nI_cl hk hn]; exact ar_at _ (by omega)) e1 F2.1 (s_part F2 hk hu) (b_X3_dropLeaves_42 ?_)
        rw [nI_1, hset_hset]
        have e : dlU (lv g n) g (k + 1) = pt (dlU (lv g n) g k) k u := by
          show (if (lv g n).testBit k = true then (match low (dlU (lv g n) g k k) with
            | some u => pt (dlU (lv g n) g k) k u
            | none => dlU (lv g n) g k) else dlU (lv g n) g k) = _
          rw [if_pos (tb_of q), hlo]
        rw [e] at ih; exact ih
  · have F2 := F.near (hlt2 n)
    exact b_X3_dropLeaves_12 F2.1 rfl (fun _ => b_X3_dropLeaves_48 ⟨rfl, rfl⟩) (fun q => absurd (nI_le (Nat.le_refl n) F.n31) q)
theorem s_exchange (F : FO h f a b n g w) {u v : Nat} (hu : u < n) (hv : v < n) : MSE m_X3_exchange (d + 1) [.ref f, .int (nI u), .int (nI v)] h none (h.set a (100, ar 10 (fun i => nI (xg g n u v i)))) := by
  have hn := F.le
  have hlt : ∀ k j, exU u v g k j < 1024 := exU_lt F.2.2.2.2.2 (by omega) (by omega)
  refine e_X3_exchange (b_X3_exchange_0 F.1 (s_isVertex F hu) (fun q => absurd q (by decide)) (fun _ => b_X3_exchange_8 F.1 (s_isVertex F hv) (fun _ => b_X3_exchange_17 ?_) (fun q => absurd q (by decide))))
  have key := up_all (n := n) (T := fun k => a_X3_exchange_19 (d + 1) 0 0 f (nI u) (nI v) (nI k) (h.set a (100, ar 10 (fun i => nI (exU u v g k i)))) (rV (h.set a (100, ar 10 (fun i => nI (xg g n u v i)))))) (fun k hk ih => ?_) ?_
  · have e0 : h.set a (100, ar 10 (fun i => nI (exU u v g 0 i))) = h := hset_id F.2.1
    rw [e0] at key
    exact key
  · have F2 := F.near (hlt k)
    have ih : a_X3_exchange_19 (d + 1) 0 0 f (nI u) (nI v) (nI (k + 1)) (h.set a (100, ar 10 (fun i => nI (exU u v g (k + 1) i)))) (rV (h.set a (100, ar 10 (fun i => nI (xg g n u v i))))) := ih
    have hk1 := hlt k k
    refine b_X3_exchange_19 F2.1 rfl (fun q => absurd q (nI_ge hk F.n31)) (fun _ => b_X3_exchange_27 F2.1 rfl F2.2.1 (nI_pos (by omega)) (by rw [nI_cl hk hn]; exact ar_at _ (by omega)) (s_holds (by omega) (by omega)) F2.1 rfl F2.2.1 (nI_pos (by omega)) (by rw [nI_cl hk hn]; exact ar_at _ (by omega)) (s_holds (by omega) (by omega)) (fun q => b_X3_exchange_66 ?_) (fun q => b_X3_exchange_50 F2.1 rfl F2.2.1 (nI_pos (by omega)) (by rw [nI_cl hk hn]; exact ar_at _ (by omega)) F2.2.1 (nI_pos (by omega)) (by rw [nI_cl hk hn, ar_len]; omega) (b_X3_exchange_66 ?_)))
    · rw [nI_1]
      have e : exU u v g (k + 1) = exU u v g k := if_pos (b01.mp q)
      rw [e] at ih; exact ih
    · rw [nI_1, hset_hset, nI_cl hk hn, i_shl1 (by omega), i_shl1 (by omega), i_or, i_xor, ar_set, ar_up]
      have e : exU u v g (k + 1) = up1 (exU u v g k) k (exU u v g k k ^^^ (2 ^ u ||| 2 ^ v)) := if_neg (fun e => q (b01.mpr e))
      rw [e] at ih; exact ih
  · have F2 := F.near (hlt n)
    have hg3 : ∀ j, up1 (exU u v g n) u (exU u v g n v) j < 1024 := up_lt (hlt n) (hlt n v)
    have F3 := F.near hg3
    have e1 : ((h.set a (100, ar 10 (fun i => nI (exU u v g n i)))).set a (100, (ar 10 (fun i => nI (exU u v g n i))).set (nI u).toNatClampNeg (.int (nI (exU u v g n v))))) = h.set a (100, ar 10 (fun i => nI (up1 (exU u v g n) u (exU u v g n v) i))) := by
      rw [hset_hset, nI_cl hu hn, ar_set, ar_up]
    refine b_X3_exchange_19 F2.1 rfl (fun _ => ?_) (fun q => absurd (nI_le (Nat.le_refl n) F.n31) q)
    refine b_X3_exchange_72 (x4 := nI (exU u v g n u)) (x12 := nI (exU u v g n v)) F2.1 rfl F2.2.1 (nI_pos (by omega)) (by rw [nI_cl hu hn]; exact ar_at _ (by omega)) F2.1 rfl F2.1 rfl F2.2.1 (nI_pos (by omega)) (by rw [nI_cl hv hn]; exact ar_at _ (by omega)) F2.2.1 (nI_pos (by omega)) (by rw [nI_cl hu hn, ar_len]; omega) (by rw [e1]; exact F3.1) rfl (by rw [e1]; exact F3.2.1) (nI_pos (by omega)) (by rw [nI_cl hv hn, ar_len]; omega) ⟨rfl, ?_⟩
    rw [e1, hset_hset, nI_cl hv hn, ar_set, ar_up]; rfl
theorem s_edgesNotIn (F : FO h f a b n g w) {r : Nat} {q : Nat → Nat} (hr : h[r]? = some (100, ar 20 (fun i => nI (q i)))) : MSE m_X3_edgesNotIn (d + 1) [.ref f, .ref r] h (some (.int (nI (tsU (fun v => pc (df (g v) (q v))) n / 2)))) h := by
  have hn := F.le
  refine e_X3_edgesNotIn (b_X3_edgesNotIn_0 ?_)
  have hb := tsU_le (e := fun v => pc (df (g v) (q v))) (fun i => pc_le _)
  refine up_all (n := n) (T := fun k => a_X3_edgesNotIn_4 (d + 1) 0 0 f r (nI (tsU (fun v => pc (df (g v) (q v))) k)) (nI k) h (rI (nI (tsU (fun v => pc (df (g v) (q v))) n / 2)) h)) (fun k hk ih => ?_) ?_
  · have ih : a_X3_edgesNotIn_4 (d + 1) 0 0 f r (nI (tsU (fun v => pc (df (g v) (q v))) k + pc (df (g k) (q k)))) (nI (k + 1)) h (rI (nI (tsU (fun v => pc (df (g v) (q v))) n / 2)) h) := ih
    have hdf : df (g k) (q k) < 1024 := df_lt (k := 10) (F.lt k)
    refine b_X3_edgesNotIn_4 F.1 rfl (fun q => absurd q (nI_ge hk F.n31)) (fun _ => b_X3_edgesNotIn_12 hr (fun q => absurd q (by rw [ar_len]; exact nI_ge (show k < 20 by omega) (by decide))) (fun _ => b_X3_edgesNotIn_18 F.1 rfl F.2.1 (nI_pos (by omega)) (by rw [nI_cl hk hn]; exact ar_at _ (by omega)) hr (nI_pos (by omega)) (by rw [nI_cl hk hn]; exact ar_at _ (by omega)) (by rw [i_df]; exact s_bitCount hdf) ?_))
    rw [nI_1, nI_add]; exact ih
  · refine b_X3_edgesNotIn_4 F.1 rfl (fun _ => b_X3_edgesNotIn_42 (by decide) ⟨?_, rfl⟩) (fun q => absurd (nI_le (Nat.le_refl n) F.n31) q)
    have := hb n
    rw [i_half (by omega)]
theorem s_dropEdges (F : FO h f a b n g w) : MSE m_X3_dropEdges (d + 1) [.ref f] h none (h.set a (100, ar 10 (fun _ => nI 0))) :=
  e_X3_dropEdges (b_X3_dropEdges_0 F.1 rfl (s_fill F.2.1 (by decide)) ⟨rfl, rfl⟩)
theorem s_weightOf (F : FO h f a b n g w) {v : Nat} (hv : v < n) : MSE m_X3_weightOf (d + 1) [.ref f, .int (nI v)] h (some (.int (nI (w v)))) h := by
  have hn := F.le
  exact e_X3_weightOf (b_X3_weightOf_0 F.1 (s_isVertex F hv) (fun q => absurd q (by decide)) (fun _ => b_X3_weightOf_8 F.1 rfl F.2.2.1 (nI_pos (by omega)) (by rw [nI_cl hv hn]; exact ar_at _ (by omega)) (b_X3_weightOf_18 ⟨rfl, rfl⟩)))
theorem s_weigh (F : FO h f a b n g w) {v x : Nat} (hv : v < n) : MSE m_X3_weigh (d + 1) [.ref f, .int (nI v), .int (nI x)] h none (h.set b (100, ar 10 (fun i => nI (up1 w v x i)))) := by
  have hn := F.le
  refine e_X3_weigh (b_X3_weigh_0 F.1 (s_isVertex F hv) (fun q => absurd q (by decide)) (fun _ => b_X3_weigh_8 F.1 rfl F.2.2.1 (nI_pos (by omega)) (by rw [nI_cl hv hn, ar_len]; omega) (b_X3_weigh_15 ⟨rfl, ?_⟩)))
  rw [nI_cl hv hn, ar_set, ar_up]
theorem FO.ab {h : ab_H} {f a b n : Nat} {g w : Nat → Nat} (F : FO h f a b n g w) : a ≠ b := F.2.2.2.1
theorem FO.fb {h : ab_H} {f a b n : Nat} {g w : Nat → Nat} (F : FO h f a b n g w) : b ≠ f := hk_ne F.2.2.1 F.1 (by decide)
theorem FO.wei {h : ab_H} {f a b n : Nat} {g w : Nat → Nat} (F : FO h f a b n g w) {w' : Nat → Nat} : FO (h.set b (100, ar 10 (fun i => nI (w' i)))) f a b n g w' :=
  ⟨by rw [hset_ne F.fb]; exact F.1, by rw [hset_ne (Ne.symm F.ab)]; exact F.2.1, hset_eq F.2.2.1, F.ab, F.le, F.2.2.2.2.2⟩
theorem FO.siz {h : ab_H} {f a b n n' : Nat} {g w : Nat → Nat} (F : FO h f a b n g w) (hn : n' ≤ 10) : FO (h.set f (3, [.ref a, .ref b, .int (nI n')])) f a b n' g w :=
  ⟨hset_eq F.1, by rw [hset_ne (Ne.symm F.fa)]; exact F.2.1, by rw [hset_ne (Ne.symm F.fb)]; exact F.2.2.1, F.ab, hn, F.2.2.2.2.2⟩
/-- another thing of the heap changes -/
theorem FO.off {h : ab_H} {f a b n x : Nat} {g w : Nat → Nat} {c : Nat × List Value} (F : FO h f a b n g w) (h1 : x ≠ f) (h2 : x ≠ a) (h3 : x ≠ b) : FO (h.set x c) f a b n g w :=
  ⟨by rw [hset_ne h1]; exact F.1, by rw [hset_ne h2]; exact F.2.1, by rw [hset_ne h3]; exact F.2.2.1, F.ab, F.le, F.2.2.2.2.2⟩
theorem s_clear (F : FO h f a b n g w) {m : Nat} (h1 : 1 ≤ m) (h2 : m ≤ 10) : MSE m_X3_clear (d + 2) [.ref f, .int (nI m)] h none (((h.set f (3, [.ref a, .ref b, .int (nI m)])).set a (100, ar 10 (fun _ => nI 0))).set b (100, ar 10 (fun _ => nI 1))) := by
  have F2 := F.siz h2
  have F3 := F2.near (g' := fun _ => 0) (fun _ => by decide)
  refine e_X3_clear (b_X3_clear_0 (fun q => absurd q (nI_nlt (a := m) (b := 1) h1 (by omega))) (fun _ => b_X3_clear_5 (fun q => absurd q (nI_nlt (a := 10) (b := m) h2 (by decide))) (fun _ => b_X3_clear_11 F.1 (by decide : 2 < 3) (b_X3_clear_16 F2.1 (s_dropEdges F2) F3.1 rfl (s_fill F3.2.2.1 (by decide)) ⟨rfl, rfl⟩))))
theorem s_copy (F : FO h f a b n g w) {f2 a2 b2 n2 : Nat} {g2 w2 : Nat → Nat} (F2 : FO h f2 a2 b2 n2 g2 w2) (h1 : f ≠ f2) (h2 : a ≠ a2) (h3 : a ≠ b2) (h4 : b ≠ a2) (h5 : b ≠ b2) : MSE m_X3_copy d [.ref f, .ref f2] h none (((h.set f (3, [.ref a, .ref b, .int (nI n2)])).set a (100, ar 10 (fun i => nI (g2 i)))).set b (100, ar 10 (fun i => nI (w2 i)))) := by
  have fa2 : f ≠ a2 := hk_ne F.1 F2.2.1 (by decide)
  have fb2 : f ≠ b2 := hk_ne F.1 F2.2.2.1 (by decide)
  have af2 : a ≠ f2 := hk_ne F.2.1 F2.1 (by decide)
  have A := F.siz F2.le
  have A2 := F2.off (c := (3, [.ref a, .ref b, .int (nI n2)])) h1 fa2 fb2
  have B := A.near F2.2.2.2.2.2
  have B2 := A2.off (c := (100, ar 10 (fun i => nI (g2 i)))) af2 h2 h3
  refine e_X3_copy (b_X3_copy_0 F2.1 rfl F.1 (by decide : 2 < 3) A2.1 rfl A.1 rfl A2.2.1 A.2.1 (ar_int _) (ar_int _) (by rw [ar_len]; decide) (by rw [ar_len]; decide) (by rw [cpy10]; exact B2.1) rfl (by rw [cpy10]; exact B.1) rfl (by rw [cpy10]; exact B2.2.2.1) (by rw [cpy10]; exact B.2.2.1) (ar_int _) (ar_int _) (by rw [ar_len]; decide) (by rw [ar_len]; decide) ⟨rfl, ?_⟩)
  rw [cpy10, cpy10]; rfl
theorem s_saveTo (F : FO h f a b n g w) {r : Nat} {q : Nat → Nat} (hr : h[r]? = some (100, ar 20 (fun i => nI (q i)))) (ha : r ≠ a) (hb : r ≠ b) : MSE m_X3_saveTo d [.ref f, .ref r] h none (h.set r (100, ar 20 (fun i => nI (sv g w i)))) := by
  have rf : r ≠ f := hk_ne hr F.1 (by decide)
  have e1 : ab_cpyL (ar 10 (fun i => nI (g i))) (ar 20 (fun i => nI (q i))) (0 : Int32).toNatClampNeg (0 : Int32).toNatClampNeg (10 : Int32).toNatClampNeg = ar 20 (fun i => nI (if i < 10 then g i else q i)) := by
    rw [c0, c10, ar_cpy _ _ (by omega)]
    exact ar_ext (fun i hi => by
      by_cases h1 : i < 10
      · rw [if_pos ⟨Nat.zero_le _, by omega⟩, if_pos h1, Nat.sub_zero, Nat.zero_add]
      · rw [if_neg (by omega), if_neg h1])
  have F2 := F.off (c := (100, ar 20 (fun i => nI (if i < 10 then g i else q i)))) rf ha hb
  have hr2 : (h.set r (100, ar 20 (fun i => nI (if i < 10 then g i else q i))))[r]? = some (100, ar 20 (fun i => nI (if i < 10 then g i else q i))) := hset_eq hr
  have e2 : ab_cpyL (ar 10 (fun i => nI (w i))) (ar 20 (fun i => nI (if i < 10 then g i else q i))) (0 : Int32).toNatClampNeg (10 : Int32).toNatClampNeg (10 : Int32).toNatClampNeg = ar 20 (fun i => nI (sv g w i)) := by
    rw [c0, c10, ar_cpy _ _ (by omega)]
    exact ar_ext (fun i hi => by
      unfold sv
      by_cases h1 : i < 10
      · rw [if_neg (by omega), if_pos h1, if_pos h1]
      · rw [if_pos ⟨by omega, by omega⟩, if_neg h1, Nat.zero_add])
  refine e_X3_saveTo (b_X3_saveTo_0 hr (fun q => absurd (by rw [ar_len]; decide) q) (fun _ => b_X3_saveTo_7 F.1 rfl F.2.1 hr (ar_int _) (ar_int _) (by rw [ar_len]; decide) (by rw [ar_len]; decide) (by rw [e1]; exact F2.1) rfl (by rw [e1]; exact F2.2.2.1) (by rw [e1]; exact hr2) (ar_int _) (ar_int _) (by rw [ar_len]; decide) (by rw [ar_len]; decide) (b_X3_saveTo_32 ⟨rfl, ?_⟩)))
  rw [e1, e2, hset_hset]
theorem s_bringFrom (F : FO h f a b n g w) {r : Nat} {g2 w2 : Nat → Nat} (hr : h[r]? = some (100, ar 20 (fun i => nI (sv g2 w2 i)))) (ha : r ≠ a) (hb : r ≠ b) (hg2 : ∀ i, g2 i < 1024) : MSE m_X3_bringFrom d [.ref f, .ref r] h none ((h.set a (100, ar 10 (fun i => nI (g2 i)))).set b (100, ar 10 (fun i => nI (w2 i)))) := by
  have e1 : ab_cpyL (ar 20 (fun i => nI (sv g2 w2 i))) (ar 10 (fun i => nI (g i))) (0 : Int32).toNatClampNeg (0 : Int32).toNatClampNeg (10 : Int32).toNatClampNeg = ar 10 (fun i => nI (g2 i)) := by
    rw [c0, c10, ar_cpy _ _ (by omega)]
    exact ar_ext (fun i hi => by
      rw [if_pos ⟨Nat.zero_le _, by omega⟩, Nat.sub_zero, Nat.zero_add]
      unfold sv
      rw [if_pos hi])
  have e2 : ab_cpyL (ar 20 (fun i => nI (sv g2 w2 i))) (ar 10 (fun i => nI (w i))) (10 : Int32).toNatClampNeg (0 : Int32).toNatClampNeg (10 : Int32).toNatClampNeg = ar 10 (fun i => nI (w2 i)) := by
    rw [c0, c10, ar_cpy _ _ (by omega)]
    exact ar_ext (fun i hi => by
      rw [if_pos ⟨Nat.zero_le _, by omega⟩, Nat.sub_zero]
      unfold sv
      rw [if_neg (by omega), Nat.add_sub_cancel_left])
  have F2 := F.near hg2
  have hr2 : (h.set a (100, ar 10 (fun i => nI (g2 i))))[r]? = some (100, ar 20 (fun i => nI (sv g2 w2 i))) := by rw [hset_ne (Ne.symm ha)]; exact hr
  refine e_X3_bringFrom (b_X3_bringFrom_0 hr (fun q => absurd (by rw [ar_len]; decide) q) (fun _ => b_X3_bringFrom_7 F.1 rfl hr F.2.1 (ar_int _) (ar_int _) (by rw [ar_len]; decide) (by rw [ar_len]; decide) (by rw [e1]; exact F2.1) rfl (by rw [e1]; exact hr2) (by rw [e1]; exact F2.2.2.1) (ar_int _) (ar_int _) (by rw [ar_len]; decide) (by rw [ar_len]; decide) (b_X3_bringFrom_32 ⟨rfl, ?_⟩)))
  rw [e1, e2]
end
