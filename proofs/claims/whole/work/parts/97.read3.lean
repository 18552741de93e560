section
variable {d m n : Nat} {c c' c'' : Nat → List Value} {f : Nat → Int32} {z : Nat → Int32} {p : rd_p} {F : rd_f} {x y : Int32} {h : ab_H} {g : Nat → Nat}
/-! edges, codes, weights that the reference reads -/
def wq (n : Nat) (w : Nat → Nat) (i : Nat) : Nat := if i < n then w i else 0
def LF (c : Nat → List Value) (F : rd_f) : Prop := (∃ z, c 70 = moL z ∧ z 9 = 1 ∧ z 10 = nI F.1) ∧ c 72 = ar 20 (fun i => nI (sv F.2.1 (wq F.1 F.2.2) i)) ∧ 1 ≤ F.1 ∧ F.1 ≤ 10 ∧ FOR F.2.1 F.1 ∧ ∀ i, F.2.2 i ≤ 99
abbrev K8 : List Nat := [10, 15, 16, 17, 18, 19, 20, 21]
def RK8 (c c' : Nat → List Value) : Prop := (∀ i, i ≠ 70 → i ≠ 72 → i ≠ 78 → c' i = c i) ∧ ∀ z, c 70 = moL z → ∃ z', c' 70 = moL z' ∧ ∀ i, K8.contains i = false → z' i = z i
theorem RK8.tr (a : RK8 c c') (b : RK8 c' c'') : RK8 c c'' := ⟨fun i h1 h2 h3 => (b.1 i h1 h2 h3).trans (a.1 i h1 h2 h3), fun z hz => by
  obtain ⟨z1, h1, h2⟩ := a.2 z hz
  obtain ⟨z2, h3, h4⟩ := b.2 z1 h1
  exact ⟨z2, h3, fun i p => (h4 i p).trans (h2 i p)⟩⟩
theorem K78 : ∀ i, K8.contains i = false → K7.contains i = false := fun i h => by
  rw [List.contains_cons, Bool.or_eq_false_iff] at h
  exact h.2
theorem FK.W (K : FK K7 c c') : RK8 c c' := ⟨fun i h1 _ _ => K.1 i h1, (K.mono K78).2⟩
theorem RK8.up {i : Nat} {v : List Value} (h : i = 72 ∨ i = 78) : RK8 c (up1 c i v) := ⟨fun j _ h2 h3 => up1_ne _ _ (by omega), fun z hz => ⟨z, (up1_ne _ _ (by omega)).trans hz, fun _ _ => rfl⟩⟩
theorem RK8.rf : RK8 c c := ⟨fun _ _ _ _ => rfl, fun z hz => ⟨z, hz, fun _ _ => rfl⟩⟩
theorem RK8.F10 (hz : c 70 = moL z) : RK8 c (up1 c 70 (moL (up1 z 10 x))) := ⟨fun j h1 _ _ => up1_ne _ _ h1, (FK.of1 (A := K8) hz (fun j hj => by rintro rfl; exact absurd hj (by decide)) (fun _ => rfl)).2⟩
theorem LF.fk (G : LF c F) {A : List Nat} (K : FK A c c') (h9 : A.contains 9 = false) (h10 : A.contains 10 = false) : LF c' F := by
  obtain ⟨⟨z, hz, z9, z10⟩, r, q⟩ := G
  obtain ⟨z', h1, h2⟩ := K.2 z hz
  exact ⟨⟨z', h1, (h2 9 h9).trans z9, (h2 10 h10).trans z10⟩, by rw [K.1 72 (by decide)]; exact r, q⟩
theorem LF.V (G : LF c F) : VW c F.1 F.2.1 := by
  obtain ⟨⟨z, hz, z9, z10⟩, r, h1, hn, FF, -⟩ := G
  exact ⟨hn, FF.1.k hn, z, hz, Or.inr ⟨z9, z10, _, r⟩⟩
theorem LF.K (G : LF c F) : GOK F.2.1 F.1 := GOK_of G.2.2.2.2.1.1 G.2.2.2.1
theorem LF.f10 (G : LF c F) (hz : c 70 = moL z) : (moL z)[10]? = some (.int (nI F.1)) := by
  obtain ⟨⟨z1, hz1, z9, z10⟩, -⟩ := G
  rw [← hz, hz1, ← z10]; rfl
theorem LQ.off (L : LQ c f m p) {i : Nat} {v : List Value} (h : i ≠ 70 ∧ i ≠ 77) : LQ (up1 c i v) f m p := by
  obtain ⟨⟨z, hz, B, r⟩, q⟩ := L
  exact ⟨⟨z, (up1_ne _ _ (Ne.symm h.1)).trans hz, ⟨(up1_ne _ _ (Ne.symm h.2)).trans B.1, B.2⟩, r⟩, q⟩
theorem LF.off (G : LF c F) {i : Nat} {v : List Value} (h : i ≠ 70 ∧ i ≠ 72) : LF (up1 c i v) F := by
  obtain ⟨⟨z, hz, r⟩, r2, q⟩ := G
  exact ⟨⟨z, (up1_ne _ _ (Ne.symm h.1)).trans hz, r⟩, (up1_ne _ _ (Ne.symm h.2)).trans r2, q⟩
theorem LF.row (G : LF c F) {g : Nat → Nat} {w : Nat → Nat} (hg : FOR g F.1) (hw : ∀ i, w i ≤ 99) : LF (up1 c 72 (ar 20 (fun i => nI (sv g (wq F.1 w) i)))) (F.1, g, w) := by
  obtain ⟨⟨z, hz, r⟩, r2, h1, hn, -⟩ := G
  exact ⟨⟨z, (up1_ne _ _ (by decide)).trans hz, r⟩, up1_same _ _ _, h1, hn, hg, hw⟩
def RR (c c' : Nat → List Value) (f : Nat → Int32) (m : Nat) (R : Bool × rd_p × rd_f) : Prop := RK8 c c' ∧ SC c' ∧ (R.1 = true → LQ c' f m R.2.1 ∧ LF c' R.2.2) ∧ (R.1 = false → LE c' R.2.1.2.2.2.2)
/-- one end of an edge -/
def e1R (f : Nat → Int32) (m a : Nat) (p : rd_p) (F : rd_f) : Bool × rd_p × rd_f := if (nnR p 0 (nI F.1 - 1)).1 = true then (if ds F.2.1 F.1 a (vn p) = none then (true, tkT f m p, (F.1, jn F.2.1 a (vn p), F.2.2)) else (false, flP p 3, F)) else (false, (nnR p 0 (nI F.1 - 1)).2, F)
theorem nn_ok {n k : Nat} (h1 : 1 ≤ n) (hn : n ≤ 10) (h2 : p.2.2.1 = 2) (hk : k < 100) (e : p.2.2.2.1 = nI k) : nnR p 0 (nI n - 1) = if k < n then (true, p) else (false, flP p 2) := by
  unfold nnR
  have e1 : nI n - 1 = nI (n - 1) := pk_sub (a := n) (b := 1) h1
  rw [if_pos h2, e, e1]
  by_cases h : k < n
  · rw [if_pos h, if_neg]
    rintro (q | q)
    · exact nI_pos (by omega) q
    · exact q (nI_le (show k ≤ n - 1 by omega) (by omega))
  · rw [if_neg h, if_pos]
    exact Or.inr (fun q => absurd ((nI_leI (by omega) (by omega)).mp q) (by omega))
theorem LQ.rE (L : LQ c f m p) (G : LF c F) (S : SC c) {a : Nat} (ha : a < F.1) : ∃ c', MSE m_X10_readsEnd (d + 3) [.ref 70, .int (nI a)] (hp c) (some (.int (nI (if (e1R f m a p F).1 = true then 1 else 0)))) (hp c') ∧ RR c c' f m (e1R f m a p F) ∧ ((e1R f m a p F).1 = true → TO c' (nI (vn p)) ∧ vn p < F.1) := by
  obtain ⟨z, hz⟩ := L.M
  have hn := G.2.2.2.1
  have h1 := G.2.2.1
  have FF := G.2.2.2.2.1
  by_cases h2 : p.2.2.1 = 2
  · obtain ⟨k, hk, ek⟩ := L.2.2.2 h2
    have evn : vn p = k := by unfold vn; rw [ek]; exact cl_nI (by omega)
    have eN := nn_ok h1 hn h2 hk ek
    unfold e1R
    rw [eN, evn]
    have f18 := L.f18 hz h2
    rw [ek] at f18
    have f10 := G.f10 hz
    by_cases hkn : k < F.1
    · rw [if_pos hkn]
      have hmc : mc F.2.1 F.1 a < 1024 := mr_lt G.V.2.1 (by omega)
      have mcm := r_component (d := d) G.V G.K (v := a) (by omega)
      have hco : (mc F.2.1 F.1 a).testBit k = true ↔ cn F.2.1 TT a k := by rw [mc_comp FF.1 hn ha]; exact comp_bit FF.1 hn ha
      by_cases hd : ds F.2.1 F.1 a k = none
      · rw [if_pos rfl, if_pos hd]
        have hnc : ¬ cn F.2.1 TT a k := fun h => by
          obtain ⟨r, e⟩ := (ds_cn FF.1 hn ha).mp h
          rw [hd] at e; cases e
        have FJ := FF.jnF ha hkn hnc
        have G1 := G.row (g := jn F.2.1 a k) (w := F.2.2) FJ G.2.2.2.2.2
        obtain ⟨c1, hc1⟩ : ∃ c1, c1 = up1 c 72 (ar 20 (fun i => nI (sv (jn F.2.1 a k) (wq F.1 F.2.2) i))) := ⟨_, rfl⟩
        rw [← hc1] at G1
        have L1 : LQ c1 f m p := by rw [hc1]; exact L.off (by decide)
        have hz1 : c1 70 = moL z := by rw [hc1]; exact (up1_ne _ _ (by decide)).trans hz
        have S1 : SC c1 := by rw [hc1]; exact S.r72
        have mj := r_joins (d := d + 2) (h := hp c) (a := 72) (u := a) (v := k) (hp_is 72 100 G.2.1 (by decide) (by decide)) (by omega) (by omega)
        rw [hp_set (by decide) (by decide), ← hc1] at mj
        have L2 := L1.told (x := nI k) hz1
        have e1 : (hp c1).set 70 (10, (moL z).set 21 (.int (nI k))) = hp (up1 c1 70 (moL (up1 z 21 (nI k)))) := by rw [moS21, hp_set (by decide) (by decide)]
        have K2 : FK K7 c1 (up1 c1 70 (moL (up1 z 21 (nI k)))) := FK.of1 hz1 (fun j hj => by rintro rfl; exact absurd hj (by decide)) (fun _ => rfl)
        obtain ⟨c3, m3, L3, K3⟩ := L2.go (d := d)
        have KK := K2.tr (K3.mono K47)
        refine ⟨c3, e_X10_readsEnd (b_X10_readsEnd_0 (mo_H hz) (L.f17 hz) (fun _ => b_X10_readsEnd_14 (mo_H hz) f18 (mo_H hz) f10 (fun _ => b_X10_readsEnd_31 (mo_H hz) mcm (mo_H hz) f18 (r_has (by omega) (by omega)) (fun q => b_X10_readsEnd_52 (mo_H hz) rfl (mo_H hz) f18 mj (mo_H hz1) f18 (mo_H hz1) (by show 21 < 27; decide) (by rw [e1]; exact mo_H (up1_same _ _ _)) (by rw [e1]; exact m3) ⟨rfl, rfl⟩) (fun q => absurd (hco.mp (tb_of q)) hnc)) (fun q => absurd (nI_lt hkn (by omega)) q)) (fun q => absurd (sM_3.mpr h2) q)), ⟨?_, S1.fk KK, fun _ => ⟨L3, G1.fk KK (by decide) (by decide)⟩, fun h => (by cases h)⟩, fun _ => ⟨?_, hkn⟩⟩
        · rw [hc1] at KK
          exact (RK8.up (by decide)).tr KK.W
        · obtain ⟨z2, h4, h5⟩ := K3.zq (up1_same _ _ _) (i := 21) (by decide)
          exact ⟨z2, h4, h5.trans (up1_same _ _ _)⟩
      · rw [if_pos rfl, if_neg hd]
        have hnc : cn F.2.1 TT a k := by
          cases e : ds F.2.1 F.1 a k with
          | none => exact absurd e hd
          | some r => exact (ds_cn FF.1 hn ha).mpr ⟨r, e⟩
        obtain ⟨c1, m1, K1, E1⟩ := L.bad (d := d + 2) (x := 3)
        refine ⟨c1, e_X10_readsEnd (b_X10_readsEnd_0 (mo_H hz) (L.f17 hz) (fun _ => b_X10_readsEnd_14 (mo_H hz) f18 (mo_H hz) f10 (fun _ => b_X10_readsEnd_31 (mo_H hz) mcm (mo_H hz) f18 (r_has (by omega) (by omega)) (fun q => ?_) (fun q => b_X10_readsEnd_46 (mo_H hz) m1 (by decide) ⟨rfl, rfl⟩)) (fun q => absurd (nI_lt hkn (by omega)) q)) (fun q => absurd (sM_3.mpr h2) q)), ⟨K1.W, S.fk K1, fun h => (by cases h), fun _ => E1⟩, fun h => (by cases h)⟩
        have := h01.mp q
        rw [hco.mpr hnc] at this; cases this
    · rw [if_neg hkn]
      obtain ⟨c1, m1, K1, E1⟩ := L.bad (d := d + 2) (x := 2)
      exact ⟨c1, e_X10_readsEnd (b_X10_readsEnd_0 (mo_H hz) (L.f17 hz) (fun _ => b_X10_readsEnd_14 (mo_H hz) f18 (mo_H hz) f10 (fun q => absurd q (nI_nlt (by omega) (by omega))) (fun _ => b_X10_readsEnd_25 (mo_H hz) m1 (by decide) ⟨rfl, rfl⟩)) (fun q => absurd (sM_3.mpr h2) q)), ⟨K1.W, S.fk K1, fun h => (by cases h), fun _ => E1⟩, fun h => (by cases h)⟩
  · have eN : nnR p 0 (nI F.1 - 1) = (false, flP p 1) := by unfold nnR; rw [if_neg h2]
    unfold e1R
    rw [eN]
    obtain ⟨c1, m1, K1, E1⟩ := L.bad (d := d + 2) (x := 1)
    exact ⟨c1, e_X10_readsEnd (b_X10_readsEnd_0 (mo_H hz) (L.f17 hz) (fun q => absurd (sM_3.mp q) h2) (fun _ => b_X10_readsEnd_8 (mo_H hz) m1 (by decide) ⟨rfl, rfl⟩)), ⟨K1.W, S.fk K1, fun h => (by cases h), fun _ => E1⟩, fun h => (by cases h)⟩
theorem df_or {a v : Nat} (h : a.testBit v = false) : df (a ||| 2 ^ v) (2 ^ v) = a := Nat.eq_of_testBit_eq fun j => by
  rw [df_bit, Nat.testBit_or, pow_bit]
  by_cases e : v = j
  · subst e; rw [h, decide_eq_true rfl]; rfl
  · rw [decide_eq_false e]; simp
theorem ed_jn {u v : Nat} (G : GR g n) (hn : n ≤ 10) (hu : u < n) (hv : v < n) (hne : u ≠ v) (hb : (g u).testBit v = false) : ed (jn g u v) n = ed g n + 1 := by
  have hb2 : (g v).testBit u = false := by rw [G.2.1 v u]; exact hb
  have s1 := tsU_dec (f := fun i => pc (g i)) (e := fun i => pc (up1 g u (g u ||| 2 ^ v) i)) (i := u) (by
    show pc (g u) + 1 = pc (up1 g u (g u ||| 2 ^ v) u)
    rw [up1_same]
    have := pc_df1 (a := g u ||| 2 ^ v) (v := v) (by omega) (by rw [Nat.testBit_or, pow_bit, decide_eq_true rfl, Bool.or_true])
    rw [df_or hb] at this; exact this) n hu (fun j hj => by show _ = pc (up1 g u _ j); rw [up1_ne _ _ hj])
  have s2 := tsU_dec (f := fun i => pc (up1 g u (g u ||| 2 ^ v) i)) (e := fun i => pc (jn g u v i)) (i := v) (by
    show pc (up1 g u (g u ||| 2 ^ v) v) + 1 = pc (jn g u v v)
    unfold jn
    rw [up1_same]
    have hv2 : up1 g u (g u ||| 2 ^ v) v = g v := up1_ne _ _ (Ne.symm hne)
    rw [hv2]
    have := pc_df1 (a := g v ||| 2 ^ u) (v := u) (by omega) (by rw [Nat.testBit_or, pow_bit, decide_eq_true rfl, Bool.or_true])
    rw [df_or hb2] at this; exact this) n hv (fun j hj => by show _ = pc (jn g u v j); unfold jn; rw [up1_ne _ _ hj])
  have a1 : tsU (fun v => pc (g v)) n + 2 = tsU (fun i => pc (jn g u v i)) n := by omega
  unfold ed
  omega
theorem cnU_pos {P : Nat → Bool} : ∀ k i, i < k → P i = true → 0 < cnU P k
  | 0, i, h, _ => absurd h (Nat.not_lt_zero i)
  | k + 1, i, h, hp' => by
    rw [cnU_s]
    by_cases e : i = k
    · subst e; rw [if_pos hp']; omega
    · have := cnU_pos k i (by omega) hp'
      split <;> omega
theorem ed_lt (FF : FOR g n) (h1 : 1 ≤ n) (hn : n ≤ 10) : ed g n < n := by
  have h := ed_roots FF hn
  have : 0 < cnU (isR g n) n := by
    refine cnU_pos n 0 h1 ?_
    rw [isR_iff FF.1 hn h1]
    have := (rot_ok FF.1 hn (show 0 < n by omega)).2.2
    omega
  omega
end
