section
variable {d : Nat} {h : ab_H} {f a b n : Nat} {g w : Nat → Nat}
theorem s_part (F : FO h f a b n g w) {u v : Nat} (hu : u < n) (hv : v < n) : MSE m_X3_part (d + 1) [.ref f, .int (nI u), .int (nI v)] h none (h.set a (100, ar 10 (fun i => nI (pt g u v i)))) := by
  have hn := F.le
  have e1 : (h.set a (100, (ar 10 (fun i => nI (g i))).set (nI u).toNatClampNeg (.int (nI (df (g u) (2 ^ v)))))) = h.set a (100, ar 10 (fun i => nI (up1 g u (df (g u) (2 ^ v)) i))) := by
    rw [cl_nI (by omega), ar_set, ar_up]
  have hg1 : ∀ i, up1 g u (df (g u) (2 ^ v)) i < 1024 := up_lt F.2.2.2.2.2 (df_lt (k := 10) (F.lt u))
  have F2 := F.near hg1
  refine e_X3_part (b_X3_part_0 F.1 (s_isVertex F hu) (fun q => absurd q (by decide)) (fun _ => b_X3_part_8 F.1 (s_isVertex F hv) (fun q => absurd q (by decide)) (fun _ => ?_)))
  refine b_X3_part_16 (x7 := nI (g u)) (x17 := nI (up1 g u (df (g u) (2 ^ v)) v)) F.1 rfl F.1 rfl F.2.1 (nI_pos (by omega)) (by rw [cl_nI (by omega)]; exact ar_at _ (by omega)) (s_without (by omega)) F.2.1 (nI_pos (by omega)) (by rw [cl_nI (by omega), ar_len]; omega)
    (by rw [e1]; exact F2.1) rfl (by rw [e1]; exact F2.1) rfl (by rw [e1]; exact F2.2.1) (nI_pos (by omega)) (by rw [cl_nI (by omega)]; exact ar_at _ (by omega)) (s_without (by omega)) (by rw [e1]; exact F2.2.1) (nI_pos (by omega)) (by rw [cl_nI (by omega), ar_len]; omega) (b_X3_part_48 ⟨rfl, ?_⟩)
  rw [e1, hset_hset, cl_nI (by omega), ar_set, ar_up]; rfl
/-- part with what is no vertex -/
theorem s_part0 (F : FO h f a b n g w) {u : Nat} {x : Int32} (hu : u < n) (hx : ∀ v, v < n → x ≠ nI v) : MSE m_X3_part (d + 1) [.ref f, .int (nI u), .int x] h none h :=
  e_X3_part (b_X3_part_0 F.1 (s_isVertex F hu) (fun q => absurd q (by decide)) (fun _ => b_X3_part_8 F.1 (s_isVertex0 F hx) (fun _ => b_X3_part_48 ⟨rfl, rfl⟩) (fun q => absurd rfl q)))
theorem s_weightOfSet (F : FO h f a b n g w) {m : Nat} (hm : m < 1024) (hw : ∀ i, w i ≤ 99) : MSE m_X3_weightOfSet (d + 1) [.ref f, .int (nI m)] h (some (.int (nI (smU m w n)))) h := by
  have hn := F.le
  refine e_X3_weightOfSet (b_X3_weightOfSet_0 ?_)
  refine up_all (n := n) (T := fun k => a_X3_weightOfSet_4 (d + 1) 0 0 f (nI m) (nI (smU m w k)) (nI k) h (rI (nI (smU m w n)) h)) (fun k hk ih => ?_) ?_
  · have ih : a_X3_weightOfSet_4 (d + 1) 0 0 f (nI m) (nI (smU m w (k + 1))) (nI (k + 1)) h (rI (nI (smU m w n)) h) := ih
    refine b_X3_weightOfSet_4 F.1 rfl (fun q => absurd q (nI_ge hk F.n31)) (fun _ => b_X3_weightOfSet_12 (s_holds (by omega) (by omega)) (fun q => b_X3_weightOfSet_29 ?_) (fun q => b_X3_weightOfSet_20 F.1 rfl F.2.2.1 (nI_pos (by omega)) (by rw [nI_cl hk hn]; exact ar_at _ (by omega)) (b_X3_weightOfSet_29 ?_)))
    · rw [nI_1]
      rw [smU_s] at ih
      rw [if_neg (by rw [h01.mp q]; decide)] at ih
      exact ih
    · rw [nI_1, nI_add]
      rw [smU_s] at ih
      rw [if_pos (tb_of q)] at ih
      exact ih
  · exact b_X3_weightOfSet_4 F.1 rfl (fun _ => b_X3_weightOfSet_35 ⟨rfl, rfl⟩) (fun q => absurd (nI_le (Nat.le_refl n) F.n31) q)
theorem pc_le (s : Nat) : pc s ≤ 10 := by
  unfold pc
  have := List.countP_le_length (p := fun i => s.testBit i) (l := List.range 10)
  rw [List.length_range] at this
  exact this
/-- the sum of a value over all vertices below k -/
def tsU (e : Nat → Nat) : Nat → Nat
  | 0 => 0
  | k + 1 => tsU e k + e k
theorem tsU_le {B : Nat} {e : Nat → Nat} (h : ∀ i, e i ≤ B) : ∀ k, tsU e k ≤ k * B
  | 0 => Nat.zero_le _
  | k + 1 => by
    have := tsU_le h k
    have h2 := h k
    unfold tsU
    rw [Nat.succ_mul]; omega
/-- twice the edges, edges -/
def ed (g : Nat → Nat) (n : Nat) : Nat := tsU (fun v => pc (g v)) n / 2
theorem i_half {x : Nat} (h : x < 2147483648) : nI x / 2 = nI (x / 2) := pk_div (d := 2) h (by decide) (by decide)
theorem s_edges (F : FO h f a b n g w) : MSE m_X3_edges (d + 1) [.ref f] h (some (.int (nI (ed g n)))) h := by
  have hn := F.le
  refine e_X3_edges (b_X3_edges_0 ?_)
  have hb := tsU_le (e := fun v => pc (g v)) (fun i => pc_le (g i))
  refine up_all (n := n) (T := fun k => a_X3_edges_4 (d + 1) 0 0 f (nI (tsU (fun v => pc (g v)) k)) (nI k) h (rI (nI (ed g n)) h)) (fun k hk ih => ?_) ?_
  · have ih : a_X3_edges_4 (d + 1) 0 0 f (nI (tsU (fun v => pc (g v)) k + pc (g k))) (nI (k + 1)) h (rI (nI (ed g n)) h) := ih
    refine b_X3_edges_4 F.1 rfl (fun q => absurd q (nI_ge hk F.n31)) (fun _ => b_X3_edges_12 F.1 rfl F.2.1 (nI_pos (by omega)) (by rw [nI_cl hk hn]; exact ar_at _ (by omega)) (s_bitCount (F.lt k)) ?_)
    rw [nI_1, nI_add]; exact ih
  · refine b_X3_edges_4 F.1 rfl (fun _ => b_X3_edges_30 (by decide) ⟨?_, rfl⟩) (fun q => absurd (nI_le (Nat.le_refl n) F.n31) q)
    have := hb n
    rw [i_half (by omega)]; rfl
theorem s_components (F : FO h f a b n g w) (he : ed g n ≤ n) : MSE m_X3_components (d + 2) [.ref f] h (some (.int (nI (n - ed g n)))) h :=
  e_X3_components (b_X3_components_0 F.1 rfl F.1 (s_edges F) ⟨congrArg (fun x => Sum.inl (some (Value.int x))) (pk_sub he).symm |> fun e => e.symm, rfl⟩)
theorem s_setOfDegree (F : FO h f a b n g w) {m k0 : Nat} (hm : m < 1024) (hk0 : k0 < 100) : MSE m_X3_setOfDegree (d + 1) [.ref f, .int (nI m), .int (nI k0)] h (some (.int (nI (stU (fun v => m.testBit v && decide (pc (g v) = k0)) n)))) h := by
  have hn := F.le
  refine e_X3_setOfDegree (b_X3_setOfDegree_0 ?_)
  refine up_all (n := n) (T := fun k => a_X3_setOfDegree_5 (d + 1) 0 0 f (nI m) (nI k0) (nI (stU (fun v => m.testBit v && decide (pc (g v) = k0)) k)) (nI k) h (rI (nI (stU (fun v => m.testBit v && decide (pc (g v) = k0)) n)) h)) (fun k hk ih => ?_) ?_
  · have ih : a_X3_setOfDegree_5 (d + 1) 0 0 f (nI m) (nI k0) (nI (stU (fun v => m.testBit v && decide (pc (g v) = k0)) (k + 1))) (nI (k + 1)) h (rI (nI (stU (fun v => m.testBit v && decide (pc (g v) = k0)) n)) h) := ih
    have hp := pc_le (g k)
    rw [stU_s] at ih
    refine b_X3_setOfDegree_5 F.1 rfl (fun q => absurd q (nI_ge hk F.n31)) (fun _ => b_X3_setOfDegree_14 (s_holds (by omega) (by omega)) (fun q => b_X3_setOfDegree_44 ?_) (fun q => b_X3_setOfDegree_23 F.1 rfl F.2.1 (nI_pos (by omega)) (by rw [nI_cl hk hn]; exact ar_at _ (by omega)) (s_bitCount (F.lt k)) (fun q2 => b_X3_setOfDegree_44 ?_) (fun q2 => b_X3_setOfDegree_37 (b_X3_setOfDegree_44 ?_))))
    · rw [nI_1]
      rw [if_neg (by rw [h01.mp q]; simp)] at ih
      exact ih
    · rw [nI_1]
      rw [if_neg (by
        rw [tb_of q]
        have : ¬ pc (g k) = k0 := fun e => q2 (by rw [e])
        simp [this])] at ih
      exact ih
    · rw [nI_1, i_shl1 (by omega), i_or]
      rw [if_pos (by
        rw [tb_of q]
        have := (i_eq (by omega) (by omega)).mp q2
        simp [this])] at ih
      exact ih
  · exact b_X3_setOfDegree_5 F.1 rfl (fun _ => b_X3_setOfDegree_50 ⟨rfl, rfl⟩) (fun q => absurd (nI_le (Nat.le_refl n) F.n31) q)
theorem s_countOfDegree (F : FO h f a b n g w) {m k0 : Nat} (hm : m < 1024) (hk0 : k0 < 100) : MSE m_X3_countOfDegree (d + 2) [.ref f, .int (nI m), .int (nI k0)] h (some (.int (nI (pc (stU (fun v => m.testBit v && decide (pc (g v) = k0)) n))))) h :=
  e_X3_countOfDegree (b_X3_countOfDegree_0 F.1 (s_setOfDegree F hm hk0) (s_bitCount (stU_lt n F.le)) ⟨rfl, rfl⟩)
/-- the greatest value of a part at v -/
def gp (g w : Nat → Nat) (n v : Nat) (by' : Bool) : Nat := mxU (g v) (fun u => if by' = true then smU (rc g n (df (al n) (2 ^ v)) u) w n else pc (rc g n (df (al n) (2 ^ v)) u)) n
theorem gp_le {g w : Nat → Nat} {n v : Nat} {by' : Bool} (hn : n ≤ 10) (hw : ∀ i, w i ≤ 99) : gp g w n v by' ≤ 990 := mxU_le (fun u => by
  split
  · have := smU_le (m := rc g n (df (al n) (2 ^ v)) u) hw n
    have : n * 99 ≤ 10 * 99 := Nat.mul_le_mul_right _ hn
    omega
  · have := pc_le (rc g n (df (al n) (2 ^ v)) u); omega) n
theorem s_greatestPart (F : FO h f a b n g w) {v : Nat} (hv : v < n) {bb : Bool} (hw : ∀ i, w i ≤ 99) : MSE m_X3_greatestPart (d + 3) [.ref f, .int (nI v), .int (nI (if bb = true then 1 else 0))] h (some (.int (nI (gp g w n v bb)))) h := by
  have hn := F.le
  refine e_X3_greatestPart (b_X3_greatestPart_0 F.1 (s_all F) (s_without (by omega)) ?_)
  obtain ⟨e, he⟩ : ∃ e : Nat → Nat, e = fun u => if bb = true then smU (rc g n (df (al n) (2 ^ v)) u) w n else pc (rc g n (df (al n) (2 ^ v)) u) := ⟨_, rfl⟩
  have hgp : gp g w n v bb = mxU (g v) e n := by rw [he]; rfl
  have heb : ∀ u, e u ≤ 990 := fun u => by
    rw [he]
    show (if bb = true then smU (rc g n (df (al n) (2 ^ v)) u) w n else pc (rc g n (df (al n) (2 ^ v)) u)) ≤ 990
    split
    · have := smU_le (m := rc g n (df (al n) (2 ^ v)) u) hw n
      have : n * 99 ≤ 10 * 99 := Nat.mul_le_mul_right _ hn
      omega
    · have := pc_le (rc g n (df (al n) (2 ^ v)) u); omega
  rw [hgp]
  refine up_all (n := n) (T := fun k => a_X3_greatestPart_15 (d + 3) 0 0 f (nI v) (nI (if bb = true then 1 else 0)) (nI (df (al n) (2 ^ v))) (nI (mxU (g v) e k)) (nI k) h (rI (nI (mxU (g v) e n)) h)) (fun k hk ih => ?_) ?_
  · have ih : a_X3_greatestPart_15 (d + 3) 0 0 f (nI v) (nI (if bb = true then 1 else 0)) (nI (df (al n) (2 ^ v))) (nI (mxU (g v) e (k + 1))) (nI (k + 1)) h (rI (nI (mxU (g v) e n)) h) := ih
    have hm1 : mxU (g v) e k ≤ 990 := mxU_le heb k
    have hek := heb k
    have hrl := rc_lt (n := n) (A := df (al n) (2 ^ v)) F.2.2.2.2.2 (show k < 10 by omega)
    rw [mxU_s] at ih
    refine b_X3_greatestPart_15 F.1 rfl (fun q => absurd q (nI_ge hk F.n31)) (fun _ => b_X3_greatestPart_24 F.1 (s_hasEdge F (by omega) hk) (fun q => b_X3_greatestPart_68 ?_) (fun q => b_X3_greatestPart_34 F.1 (s_reachable F (by omega)) (fun q2 => b_X3_greatestPart_58 (s_bitCount hrl) (b_X3_greatestPart_63 (s_maxN (by omega) (by have := pc_le (rc g n (df (al n) (2 ^ v)) k); omega)) (b_X3_greatestPart_68 ?_))) (fun q2 => b_X3_greatestPart_49 F.1 (s_weightOfSet F hrl hw) (b_X3_greatestPart_63 (s_maxN (by omega) ?_) (b_X3_greatestPart_68 ?_)))))
    · rw [nI_1]
      rw [if_neg (show ¬ (g v).testBit k = true by rw [h01.mp q]; decide)] at ih
      exact ih
    · rw [nI_1]
      have ek : e k = pc (rc g n (df (al n) (2 ^ v)) k) := by
        rw [he]; exact if_neg (by rw [h01.mp q2]; decide)
      rw [if_pos (tb_of q), ek] at ih
      exact ih
    · have := smU_le (m := rc g n (df (al n) (2 ^ v)) k) hw n
      have : n * 99 ≤ 10 * 99 := Nat.mul_le_mul_right _ hn
      omega
    · rw [nI_1]
      have ek : e k = smU (rc g n (df (al n) (2 ^ v)) k) w n := by
        rw [he]; exact if_pos (tb_of q2)
      rw [if_pos (tb_of q), ek] at ih
      exact ih
  · exact b_X3_greatestPart_15 F.1 rfl (fun _ => b_X3_greatestPart_74 ⟨rfl, rfl⟩) (fun q => absurd (nI_le (Nat.le_refl n) F.n31) q)
/-- what is measured at a vertex -/
def ms (g w : Nat → Nat) (n by' v : Nat) : Nat := if by' = 0 then ec g n v else gp g w n v (decide (by' = 2))
theorem ms_le {g w : Nat → Nat} {n v by' : Nat} (hn : n ≤ 10) (hw : ∀ i, w i ≤ 99) : ms g w n by' v ≤ 990 := by
  unfold ms; split
  · have := ec_le (g := g) (n := n) (v := v); omega
  · exact gp_le hn hw
theorem s_measure (F : FO h f a b n g w) {v by' : Nat} (hv : v < n) (hb : by' < 3) (hw : ∀ i, w i ≤ 99) : MSE m_X3_measure (d + 4) [.ref f, .int (nI v), .int (nI by')] h (some (.int (nI (ms g w n by' v)))) h := by
  have hn := F.le
  refine e_X3_measure (b_X3_measure_0 (fun q => b_X3_measure_12 (fun q2 => b_X3_measure_23 (b_X3_measure_24 F.1 (s_greatestPart (bb := false) F hv hw) (b_X3_measure_27 ⟨?_, rfl⟩))) (fun q2 => b_X3_measure_19 (b_X3_measure_24 F.1 (s_greatestPart (bb := true) F hv hw) (b_X3_measure_27 ⟨?_, rfl⟩)))) (fun q => b_X3_measure_4 F.1 (s_eccentricity F (by omega) (by omega)) (b_X3_measure_27 ⟨?_, rfl⟩)))
  · have h0 : by' ≠ 0 := fun e => q (by rw [e]; rfl)
    have h2 : by' ≠ 2 := fun e => q2 (by rw [e]; rfl)
    unfold ms
    rw [if_neg h0, decide_eq_false h2]
  · have h0 : by' ≠ 0 := fun e => q (by rw [e]; rfl)
    have h2 : by' = 2 := (i_eq (a := by') (b := 2) (by omega) (by omega)).mp q2
    unfold ms
    rw [if_neg h0, decide_eq_true h2]
  · have h0 : by' = 0 := (i_eq0 (by omega)).mp q
    unfold ms
    rw [if_pos h0]
/-- (least value so far, the vertices with it) over the first k vertices of a set -/
def lbU (m : Nat) (e : Nat → Nat) : Nat → Nat × Nat
  | 0 => (0, 0)
  | k + 1 => if m.testBit k = true then (if (lbU m e k).2 = 0 ∨ e k < (lbU m e k).1 then (e k, 2 ^ k) else if e k = (lbU m e k).1 then ((lbU m e k).1, (lbU m e k).2 ||| 2 ^ k) else lbU m e k) else lbU m e k
theorem lbU_s {m : Nat} {e : Nat → Nat} {k : Nat} : lbU m e (k + 1) = if m.testBit k = true then (if (lbU m e k).2 = 0 ∨ e k < (lbU m e k).1 then (e k, 2 ^ k) else if e k = (lbU m e k).1 then ((lbU m e k).1, (lbU m e k).2 ||| 2 ^ k) else lbU m e k) else lbU m e k := rfl
theorem lbU_le {m B : Nat} {e : Nat → Nat} (h : ∀ i, e i ≤ B) : ∀ k, k ≤ 10 → (lbU m e k).1 ≤ B ∧ (lbU m e k).2 < 1024
  | 0, _ => ⟨Nat.zero_le _, (by decide : 0 < 1024)⟩
  | k + 1, hk => by
    have ih := lbU_le (m := m) h k (by omega)
    have hp := pow_lt (show k < 10 by omega)
    unfold lbU
    split
    · split
      · exact ⟨h k, hp⟩
      · split
        · exact ⟨ih.1, or_lt ih.2 hp⟩
        · exact ih
    · exact ih
theorem s_leastBy (F : FO h f a b n g w) {m by' : Nat} (hm : m < 1024) (hb : by' < 3) (hw : ∀ i, w i ≤ 99) : MSE m_X3_leastBy (d + 5) [.ref f, .int (nI m), .int (nI by')] h (some (.int (nI (lbU m (ms g w n by') n).2))) h := by
  have hn := F.le
  refine e_X3_leastBy (b_X3_leastBy_0 ?_)
  refine up_all (n := n) (T := fun k => a_X3_leastBy_8 (d + 5) 0 0 f (nI m) (nI by') (nI (lbU m (ms g w n by') k).1) (nI (lbU m (ms g w n by') k).2) (nI k) h (rI (nI (lbU m (ms g w n by') n).2) h)) (fun k hk ih => ?_) ?_
  · have ih : a_X3_leastBy_8 (d + 5) 0 0 f (nI m) (nI by') (nI (lbU m (ms g w n by') (k + 1)).1) (nI (lbU m (ms g w n by') (k + 1)).2) (nI (k + 1)) h (rI (nI (lbU m (ms g w n by') n).2) h) := ih
    obtain ⟨hl1, hl2⟩ := lbU_le (m := m) (e := ms g w n by') (B := 990) (fun i => ms_le hn hw) k (by omega)
    have hek : ms g w n by' k ≤ 990 := ms_le hn hw
    rw [lbU_s] at ih
    refine b_X3_leastBy_8 F.1 rfl (fun q => absurd q (nI_ge hk F.n31)) (fun _ => b_X3_leastBy_17 (s_holds (by omega) (by omega)) (fun q => b_X3_leastBy_73 ?_) (fun q => b_X3_leastBy_26 F.1 (s_measure F hk hb hw) (fun q2 => b_X3_leastBy_46 (b_X3_leastBy_73 ?_)) (fun q2 => b_X3_leastBy_40 (fun q3 => b_X3_leastBy_58 (fun q4 => b_X3_leastBy_73 ?_) (fun q4 => b_X3_leastBy_64 (b_X3_leastBy_73 ?_))) (fun q3 => b_X3_leastBy_46 (b_X3_leastBy_73 ?_)))))
    · rw [nI_1]
      rw [if_neg (by rw [h01.mp q]; decide)] at ih
      exact ih
    · rw [nI_1, i_shl1 (by omega)]
      rw [if_pos (tb_of q), if_pos (Or.inl ((i_eq0 (by omega)).mp q2))] at ih
      exact ih
    · rw [nI_1]
      have e3 := (nI_leI (by omega) (by omega)).mp q3
      have e4 : ¬ ms g w n by' k = (lbU m (ms g w n by') k).1 := fun e => q4 (by rw [e])
      have e2 : ¬ (lbU m (ms g w n by') k).2 = 0 := fun e => q2 (by rw [e]; rfl)
      rw [if_pos (tb_of q), if_neg (by omega), if_neg e4] at ih
      exact ih
    · rw [nI_1, i_shl1 (by omega), i_or]
      have e3 := (nI_leI (by omega) (by omega)).mp q3
      have e4 : ms g w n by' k = (lbU m (ms g w n by') k).1 := (i_eq (by omega) (by omega)).mp q4
      have e2 : ¬ (lbU m (ms g w n by') k).2 = 0 := fun e => q2 (by rw [e]; rfl)
      rw [if_pos (tb_of q), if_neg (by omega), if_pos e4] at ih
      exact ih
    · rw [nI_1, i_shl1 (by omega)]
      have e3 : ¬ (lbU m (ms g w n by') k).1 ≤ ms g w n by' k := fun e => q3 (nI_le e (by omega))
      rw [if_pos (tb_of q), if_pos (Or.inr (by omega))] at ih
      exact ih
  · exact b_X3_leastBy_8 F.1 rfl (fun _ => b_X3_leastBy_79 ⟨rfl, rfl⟩) (fun q => absurd (nI_le (Nat.le_refl n) F.n31) q)
end
