section
variable {d n t : Nat} {c c' : Nat → List Value} {g w w' : Nat → Nat} {z : Nat → Int32} {x y : Int32}
/-! the class's measures are the reference's -/
theorem lbU_ext {m : Nat} {e f : Nat → Nat} : ∀ k, (∀ i, i < k → m.testBit i = true → e i = f i) → lbU m e k = lbU m f k
  | 0, _ => rfl
  | k + 1, h => by
    rw [lbU_s, lbU_s, lbU_ext k (fun i hi => h i (by omega))]
    by_cases hb : m.testBit k = true
    · rw [if_pos hb, if_pos hb, h k (by omega) hb]
    · rw [if_neg hb, if_neg hb]
theorem smU_ext {m : Nat} {e f : Nat → Nat} : ∀ k, (∀ i, i < k → m.testBit i = true → e i = f i) → smU m e k = smU m f k
  | 0, _ => rfl
  | k + 1, h => by
    rw [smU_s, smU_s, smU_ext k (fun i hi => h i (by omega))]
    by_cases hb : m.testBit k = true
    · rw [if_pos hb, if_pos hb, h k (by omega) hb]
    · rw [if_neg hb, if_neg hb]
theorem stU_ext {p q : Nat → Bool} : ∀ k, (∀ i, i < k → p i = q i) → stU p k = stU q k
  | 0, _ => rfl
  | k + 1, h => by rw [stU_s, stU_s, h k (by omega), stU_ext k (fun i hi => h i (by omega))]
theorem pc_stU {p : Nat → Bool} {k : Nat} (hk : k ≤ 10) : pc (stU p k) = cnU p k := by
  have hlt : stU p k < 2 ^ k := lt_of_bits (fun j hj => by
    rw [stU_bit, Bool.and_eq_true, decide_eq_true_eq] at hj
    exact hj.1)
  rw [pc_cnUn hlt hk]
  exact cnU_ext k (fun i hi => by rw [stU_bit, decide_eq_true hi]; rfl)
theorem gp_mg (G : GR g n) (hn : n ≤ 10) {v : Nat} {b : Bool} : mg g w n v b = gp g w n v b := by
  unfold mg gp
  refine mxU_ext n (fun u hu hb => ?_)
  have hne : u ≠ v := fun e => G.ne hb e.symm
  rw [mr_part G hn hu hne]
  cases b with
  | true =>
    rw [if_pos rfl]
    exact smU_ext n (fun i _ _ => if_pos rfl)
  | false =>
    rw [if_neg (by decide)]
    have e : w1 w false = fun _ => 1 := by funext i; unfold w1; rw [if_neg (by decide)]
    have hlt : rc g n (df (al n) (2 ^ v)) u < 2 ^ n := by rw [← mr_part G hn hu hne]; exact mr_lt2 G hn hu
    rw [e, smU_1, ← pc_cnUn hlt hn]
theorem ms_mm (G : GR g n) (hn : n ≤ 10) {v k : Nat} (hv : v < n) : mm g w n k v = ms g w n k v := by
  unfold mm ms
  by_cases h : k = 0
  · rw [if_pos h, if_pos h, mE_ec G hn hv]
  · rw [if_neg h, if_neg h, gp_mg G hn]
theorem lb_ms (G : GR g n) (hn : n ≤ 10) {s k : Nat} : lbU s (mm g w n k) n = lbU s (ms g w n k) n := lbU_ext n (fun i hi _ => ms_mm G hn hi)
theorem mx_ec (G : GR g n) (hn : n ≤ 10) {s : Nat} : mxU s (mE g n) n = mxU s (ec g n) n := mxU_ext n (fun i hi _ => mE_ec G hn hi)
theorem roots_m (G : GR g n) (hn : n ≤ 10) {k : Nat} (hk : k ≤ n) : cnU (mR g n) k = cnU (isR g n) k := cnU_ext k (fun i hi => mR_isR G hn (by omega))
/-! pruning in the reference -/
theorem sv_up {u a : Nat} (hu : u < 10) : up1 (sv g w) u a = sv (up1 g u a) w := by
  funext j
  by_cases e : j = u
  · subst e
    rw [up1_same]
    unfold sv
    rw [if_pos hu, up1_same]
  · rw [up1_ne _ _ e]
    unfold sv
    by_cases h : j < 10
    · rw [if_pos h, if_pos h, up1_ne _ _ e]
    · rw [if_neg h, if_neg h]
theorem ar_upN {m : Nat} {f : Nat → Nat} {i a : Nat} : (ar m (fun j => nI (f j))).set i (.int (nI a)) = ar m (fun j => nI (up1 f i a j)) := by rw [ar_set, ar_up]
theorem r_parts {h : ab_H} {a u v : Nat} (ha : h[a]? = some (100, ar 20 (fun i => nI (sv g w i)))) (hu : u < 10) (hv : v < 10) : MSE m_X10_parts d [.ref a, .int (nI u), .int (nI v)] h none (h.set a (100, ar 20 (fun i => nI (sv (pt g u v) w i)))) := by
  have e1 : h.set a (100, (ar 20 (fun i => nI (sv g w i))).set (nI u).toNatClampNeg (.int (nI (g u) &&& ((1 <<< (nI v &&& 31)) ^^^ (-1))))) = h.set a (100, ar 20 (fun i => nI (sv (up1 g u (df (g u) (2 ^ v))) w i))) := by
    rw [i_shl1 (by omega), i_df, cl_nI (by omega), ar_upN, sv_up hu]
  have ha2 := hset_eq (c := (100, ar 20 (fun i => nI (sv (up1 g u (df (g u) (2 ^ v))) w i)))) ha
  refine e_X10_parts (b_X10_parts_0 (x4 := nI (g u)) (x15 := nI (up1 g u (df (g u) (2 ^ v)) v)) ha (nI_pos (by omega)) (by rw [at20 (by omega), sv_lo hu]) ha (nI_pos (by omega)) (ln20 (by omega)) (by rw [e1]; exact ha2) (nI_pos (by omega)) (by rw [at20 (by omega), sv_lo hv]) (by rw [e1]; exact ha2) (nI_pos (by omega)) (ln20 (by omega)) ⟨rfl, ?_⟩)
  rw [e1, hset_hset, i_shl1 (by omega), i_df, cl_nI (by omega), ar_upN, sv_up hv]
  rfl
theorem r_joins {h : ab_H} {a u v : Nat} (ha : h[a]? = some (100, ar 20 (fun i => nI (sv g w i)))) (hu : u < 10) (hv : v < 10) : MSE m_X10_joins d [.ref a, .int (nI u), .int (nI v)] h none (h.set a (100, ar 20 (fun i => nI (sv (jn g u v) w i)))) := by
  have e1 : h.set a (100, (ar 20 (fun i => nI (sv g w i))).set (nI u).toNatClampNeg (.int (nI (g u) ||| (1 <<< (nI v &&& 31))))) = h.set a (100, ar 20 (fun i => nI (sv (up1 g u (g u ||| 2 ^ v)) w i))) := by
    rw [i_shl1 (by omega), i_or, cl_nI (by omega), ar_upN, sv_up hu]
  have ha2 := hset_eq (c := (100, ar 20 (fun i => nI (sv (up1 g u (g u ||| 2 ^ v)) w i)))) ha
  refine e_X10_joins (b_X10_joins_0 (x4 := nI (g u)) (x13 := nI (up1 g u (g u ||| 2 ^ v) v)) ha (nI_pos (by omega)) (by rw [at20 (by omega), sv_lo hu]) ha (nI_pos (by omega)) (ln20 (by omega)) (by rw [e1]; exact ha2) (nI_pos (by omega)) (by rw [at20 (by omega), sv_lo hv]) (by rw [e1]; exact ha2) (nI_pos (by omega)) (ln20 (by omega)) ⟨rfl, ?_⟩)
  rw [e1, hset_hset, i_shl1 (by omega), i_or, cl_nI (by omega), ar_upN, sv_up hv]
  rfl
/-- the other row -/
def cX (c : Nat → List Value) (g w : Nat → Nat) : Nat → List Value := up1 c 72 (ar 20 (fun i => nI (sv g w i)))
theorem cX_H : (hp (cX c g w))[72]? = some (100, ar 20 (fun i => nI (sv g w i))) := hp_is 72 100 (up1_same _ _ _) (by decide) (by decide)
theorem cX_s {g2 w2 : Nat → Nat} : (hp (cX c g w)).set 72 (100, ar 20 (fun i => nI (sv g2 w2 i))) = hp (cX c g2 w2) := by
  unfold cX
  rw [hp_set (by decide) (by decide), up1_up1]
theorem cX_M (hz : c 70 = moL z) : (hp (cX c g w))[70]? = some (10, moL z) := mo_H ((up1_ne _ _ (by decide)).trans hz)
theorem r_layOther (hz : c 70 = moL z) (h1 : c 71 = ar 20 (fun i => nI (sv g w i))) (h2 : ∃ o : Nat → Nat, c 72 = ar 20 (fun i => nI (o i))) : MSE m_X10_layOther d [.ref 70] (hp c) none (hp (cX c g w)) := by
  obtain ⟨o, h2⟩ := h2
  have st : ∀ k, (hp (up1 c 72 (ar 20 (fun i => nI (if i < k then sv g w i else o i)))))[70]? = some (10, moL z) := fun k => mo_H ((up1_ne _ _ (by decide)).trans hz)
  have s71 : ∀ k, (hp (up1 c 72 (ar 20 (fun i => nI (if i < k then sv g w i else o i)))))[71]? = some (100, ar 20 (fun i => nI (sv g w i))) := fun k => hp_is 71 100 ((up1_ne _ _ (by decide)).trans h1) (by decide) (by decide)
  have s72 : ∀ k, (hp (up1 c 72 (ar 20 (fun i => nI (if i < k then sv g w i else o i)))))[72]? = some (100, ar 20 (fun i => nI (if i < k then sv g w i else o i))) := fun k => hp_is 72 100 (up1_same _ _ _) (by decide) (by decide)
  refine e_X10_layOther (b_X10_layOther_0 ?_)
  have key := up_all (n := 20) (T := fun k => a_X10_layOther_2 d 0 0 70 (nI k) (hp (up1 c 72 (ar 20 (fun i => nI (if i < k then sv g w i else o i))))) (rV (hp (cX c g w)))) (fun k hk ih => ?_) ?_
  · have e0 : up1 c 72 (ar 20 (fun i => nI (if i < 0 then sv g w i else o i))) = c := up1_id (by rw [h2]; exact ar_ext (fun i _ => by rw [if_neg (Nat.not_lt_zero i)]))
    have key : a_X10_layOther_2 d 0 0 70 (nI 0) (hp (up1 c 72 (ar 20 (fun i => nI (if i < 0 then sv g w i else o i))))) (rV (hp (cX c g w))) := key
    rw [e0] at key; exact key
  · refine b_X10_layOther_2 (fun q => absurd q (nI_ge (a := k) (b := 20) hk (by decide))) (fun _ => b_X10_layOther_8 (x7 := nI (sv g w k)) (st k) rfl (st k) rfl (s71 k) (nI_pos (by omega)) (at20 hk) (s72 k) (nI_pos (by omega)) (ln20 hk) ?_)
    rw [cl_nI (by omega), ar_upN, hp_set (by decide) (by decide), up1_up1, nI_1]
    have e : ar 20 (fun j => nI (up1 (fun i => if i < k then sv g w i else o i) k (sv g w k) j)) = ar 20 (fun i => nI (if i < k + 1 then sv g w i else o i)) := ar_ext (fun i _ => by
      by_cases e : i = k
      · subst e; rw [up1_same, if_pos (show i < i + 1 by omega)]
      · rw [up1_ne _ _ e]
        by_cases h : i < k
        · rw [if_pos h, if_pos (show i < k + 1 by omega)]
        · rw [if_neg h, if_neg (show ¬ i < k + 1 by omega)])
    rw [e]; exact ih
  · have e : up1 c 72 (ar 20 (fun i => nI (if i < 20 then sv g w i else o i))) = cX c g w := by
      unfold cX
      rw [ar_ext (fun i hi => by rw [if_pos hi])]
    rw [e]
    exact b_X10_layOther_2 (fun _ => b_X10_layOther_26 ⟨rfl, rfl⟩) (fun q => absurd (nI_le (a := 20) (b := 20) (Nat.le_refl _) (by decide)) q)
theorem lz_some {s u : Nat} (h : low s = some u) : lz s = u := by rw [lz_low, h]; rfl
theorem r_prunes {g1 w1 : Nat → Nat} (hz : c 70 = moL z) (h6 : z 6 = nI n) (hn : n ≤ 10) (F : FOR g1 n) : MSE m_X10_prunes (d + 2) [.ref 70] (hp (cX c g1 w1)) (some (.int (nI (gon g1 n)))) (hp (cX c (dl g1 n) w1)) := by
  have M := fun g' : Nat → Nat => cX_M (c := c) (g := g') (w := w1) hz
  have f6 : (moL z)[6]? = some (.int (nI n)) := by rw [← h6]; rfl
  have hL : lv g1 n = stU (fun v => decide (pc (g1 v) = 1)) n := stU_ext n (fun i hi => by rw [al_bit, decide_eq_true hi]; rfl)
  have hLlt : lv g1 n < 1024 := stU_lt n hn
  obtain ⟨L, hLd⟩ : ∃ L, L = lv g1 n := ⟨_, rfl⟩
  have hg1 := F.1.k hn
  refine e_X10_prunes (b_X10_prunes_0 ?_)
  refine up_all (n := n) (T := fun k => a_X10_prunes_4 (d + 2) 0 0 70 (nI (stU (fun v => decide (pc (g1 v) = 1)) k)) (nI k) (hp (cX c g1 w1)) (rI (nI (gon g1 n)) (hp (cX c (dl g1 n) w1)))) (fun k hk ih => ?_) ?_
  · have ih : a_X10_prunes_4 (d + 2) 0 0 70 (nI (stU (fun v => decide (pc (g1 v) = 1)) (k + 1))) (nI (k + 1)) (hp (cX c g1 w1)) (rI (nI (gon g1 n)) (hp (cX c (dl g1 n) w1))) := ih
    rw [stU_s] at ih
    have hpl := pc_le (g1 k)
    refine b_X10_prunes_4 (M g1) f6 (fun q => absurd q (nI_ge hk (by omega))) (fun _ => b_X10_prunes_12 (x5 := nI (g1 k)) (M g1) rfl cX_H (nI_pos (by omega)) (by rw [at20 (by omega), sv_lo (by omega)]) (r_ones (hg1 k)) (fun q => b_X10_prunes_32 (b_X10_prunes_33 ?_)) (fun q => b_X10_prunes_26 (b_X10_prunes_33 ?_)))
    · rw [if_neg (fun e => q (by rw [of_decide_eq_true e]; rfl))] at ih
      rw [nI_1, show nI (stU (fun v => decide (pc (g1 v) = 1)) k) ||| 0 = nI (stU (fun v => decide (pc (g1 v) = 1)) k ||| 0) from i_or _ 0, Nat.or_zero]
      exact ih
    · rw [if_pos (decide_eq_true ((i_eq (b := 1) (by omega) (by decide)).mp q))] at ih
      rw [nI_1, i_shl1 (by omega), i_or]
      exact ih
  · rw [← hL, ← hLd]
    refine b_X10_prunes_4 (M g1) f6 (fun _ => b_X10_prunes_41 ?_) (fun q => absurd (nI_le (Nat.le_refl n) (by omega)) q)
    have eD : dl g1 n = dlU L g1 n := by rw [hLd]; rfl
    have eG : gon g1 n = goU L g1 n := by rw [hLd]; rfl
    rw [eD, eG]
    rw [← hLd] at hLlt
    refine up_all (n := n) (T := fun k => a_X10_prunes_45 (d + 2) 0 0 70 (nI L) (nI (goU L g1 k)) (nI k) (hp (cX c (dlU L g1 k) w1)) (rI (nI (goU L g1 n)) (hp (cX c (dlU L g1 n) w1)))) (fun k hk ih => ?_) ?_
    · have ih : a_X10_prunes_45 (d + 2) 0 0 70 (nI L) (nI (goU L g1 (k + 1))) (nI (k + 1)) (hp (cX c (dlU L g1 (k + 1)) w1)) (rI (nI (goU L g1 n)) (hp (cX c (dlU L g1 n) w1))) := ih
      rw [goU_s, dlU_s] at ih
      have hgk := (dlU_F F (L := L) k).1.k hn
      have a4 : (ar 20 (fun i => nI (sv (dlU L g1 k) w1 i)))[(nI k).toNatClampNeg]? = some (.int (nI (dlU L g1 k k))) := by rw [at20 (by omega), sv_lo (by omega)]
      refine b_X10_prunes_45 (M _) f6 (fun q => absurd q (nI_ge hk (by omega))) (fun _ => b_X10_prunes_53 (r_has (by omega) (by omega)) (fun q => b_X10_prunes_93 ?_) (fun q => b_X10_prunes_61 (M _) rfl cX_H (nI_pos (by omega)) a4 (fun q2 => ?_) (fun q2 => b_X10_prunes_70 (b_X10_prunes_93 ?_))))
      · rw [if_neg (by rw [h01.mp q]; decide), if_neg (by rw [h01.mp q]; decide)] at ih
        rw [nI_1]; exact ih
      · have hne : dlU L g1 k k ≠ 0 := fun e => q2 (by rw [e]; rfl)
        obtain ⟨u, hu⟩ : ∃ u, low (dlU L g1 k k) = some u := low_some (Nat.pos_of_ne_zero (fun e => hne (pc_zero (hgk k) e)))
        have hu10 := low_lt hu
        rw [if_pos (tb_of q), if_pos (tb_of q), if_neg (by rw [hu]; intro e; cases e)] at ih
        simp only [hu] at ih
        have m1 := r_lowest (d := d) (h := hp (cX c (dlU L g1 k) w1)) (hgk k)
        rw [lz_some hu] at m1
        have m2 := r_parts (d := d + 1) (h := hp (cX c (dlU L g1 k) w1)) (a := 72) (u := k) (v := u) cX_H (by omega) hu10
        rw [cX_s] at m2
        refine b_X10_prunes_73 (M _) rfl (M _) rfl cX_H (nI_pos (by omega)) a4 m1 m2 (b_X10_prunes_93 ?_)
        rw [nI_1, nI_1]; exact ih
      · have h0 := (i_eq0 (by have := hgk k; omega)).mp q2
        have hl : low (dlU L g1 k k) = none := by rw [h0]; decide
        rw [if_pos (tb_of q), if_pos (tb_of q), if_pos hl] at ih
        simp only [hl] at ih
        rw [nI_1]; exact ih
    · exact b_X10_prunes_45 (M _) f6 (fun _ => b_X10_prunes_99 ⟨rfl, rfl⟩) (fun q => absurd (nI_le (Nat.le_refl n) (by omega)) q)
theorem r_round (R : RF c n g w) {v r : Nat} (hv : v < n) (hr : r < 10) (h1 : ∀ j, j < r → dlI g n j v ≠ 0) (h2 : dlI g n r v = 0) : MSE m_X10_round (d + 3) [.ref 70, .int (nI v)] (hp c) (some (.int (nI r))) (hp (cX c (dlI g n r) w)) := by
  obtain ⟨z, hz, h9, h6⟩ := R.Z
  have hn := R.le
  have M := fun g' : Nat → Nat => cX_M (c := c) (g := g') (w := w) hz
  refine e_X10_round (b_X10_round_0 (mo_H hz) (r_layOther hz R.row R.S.1) ?_)
  have loop : ∀ j i l3, i + j = r → a_X10_round_8 (d + 3) 0 0 70 (nI v) (nI i) l3 (hp (cX c (dlI g n i) w)) (rI (nI r) (hp (cX c (dlI g n r) w))) := by
    intro j
    induction j with
    | zero =>
      intro i l3 hi
      have : i = r := by omega
      subst this
      have a4 : (ar 20 (fun q => nI (sv (dlI g n i) w q)))[(nI v).toNatClampNeg]? = some (.int (nI (dlI g n i v))) := by rw [at20 (by omega), sv_lo (by omega)]
      exact b_X10_round_8 (M _) rfl cX_H (nI_pos (by omega)) a4 (fun _ => b_X10_round_30 ⟨rfl, rfl⟩) (fun q => absurd (by rw [h2]; rfl) q)
    | succ j ih =>
      intro i l3 hi
      have a4 : (ar 20 (fun q => nI (sv (dlI g n i) w q)))[(nI v).toNatClampNeg]? = some (.int (nI (dlI g n i v))) := by rw [at20 (by omega), sv_lo (by omega)]
      have hlt := (dlI_F R.F i).1.k hn v
      refine b_X10_round_8 (M _) rfl cX_H (nI_pos (by omega)) a4 (fun q => absurd ((i_eq0 (by omega)).mp q) (h1 i (by omega))) (fun _ => b_X10_round_17 (M _) (r_prunes hz h6 hn (dlI_F R.F i)) ?_)
      rw [nI_1]
      exact ih (i + 1) _ (by omega)
  exact loop r 0 0 (by omega)
end
