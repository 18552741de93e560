section
variable {d m n t : Nat} {c c' : Nat → List Value} {z : Nat → Int32} {g w : Nat → Nat} {x y : Int32}
/-! the survey of the reference -/
theorem Sw_w {w2 : Nat → Nat} {s : Nat} : Sw g w n s = Sw g w2 n s := rfl
def svV (m r : Nat) : Nat := Sw (rkT m r) (fun _ => 0) m (al m)
def svD (m r : Nat) : Nat := mxU (al m) (ec (rkT m r) m) m
def svL (m : Nat) : Nat → Nat
  | 0 => 0
  | k + 1 => if nwB (svV m) k = true then k else svL m k
def svA (m : Nat) (a k : Nat) : Nat := if a = 0 then cnU (nwB (svV m)) k else if a = 1 then svL m k else tsU (svD m) k
def SJ (c0 c : Nat → List Value) (z0 : Nat → Int32) (m k : Nat) : Prop := (∀ i, i ≠ 70 → i ≠ 72 → i ≠ 76 → i ≠ 78 → i ≠ 81 → c i = c0 i) ∧ SC c ∧ (∃ x, c 70 = moL (up1 (up1 z0 10 x) 9 1)) ∧ ∃ r : Nat → Int32, c 81 = ar 40 r ∧ (∀ j, j < cnU (nwB (svV m)) k → ∃ i, i < k ∧ r j = nI (svV m i)) ∧ ∀ i, i < k → ∃ j, j < cnU (nwB (svV m)) k ∧ r j = nI (svV m i)
theorem sv_lt (h1 : 1 ≤ m) (hn : m ≤ 10) {r : Nat} : svV m r < 1048576 := Sw_lt (WOK_of (rkT_F h1 hn).1 hn)
/-- after each rank -/
theorem SJ.step {c0 c : Nat → List Value} {z0 : Nat → Int32} {k : Nat} (J : SJ c0 c z0 m k) (hz0 : z0 6 = nI n) (R : RF c0 n g w) (h1 : 1 ≤ m) (hm : m ≤ 10) (hk : k < 2147483648) (hc : cnU (nwB (svV m)) k < 40) {lz sz : Int32} {what : Int32} : ∃ c', SJ c0 c' z0 m (k + 1) ∧ ∀ P, SW none m_X10_survey (d + 16) 0 0 50 [some (.ref 70), some (.int (nI m)), some (.int what), some (.int (nI (cnU (nwB (svV m)) (k + 1)))), some (.int (if nwB (svV m) k = true then nI k else lz)), some (.int (sz + nI (svD m k))), some (.int (nI (k + 1))), none, none] [] (hp c') P → SW none m_X10_survey (d + 16) 0 0 59 [some (.ref 70), some (.int (nI m)), some (.int what), some (.int (nI (cnU (nwB (svV m)) k))), some (.int lz), some (.int sz), some (.int (nI k)), none, none] [] (hp c) P := by
  obtain ⟨fr, S, ⟨x, hx⟩, r, hr, E1, E2⟩ := J
  obtain ⟨cw, ecw⟩ : ∃ cw, cw = cnU (nwB (svV m)) k := ⟨_, rfl⟩
  rw [← ecw] at hc E1 E2 ⊢
  obtain ⟨zz, ezz⟩ : ∃ zz, zz = up1 (up1 z0 10 x) 9 1 := ⟨_, rfl⟩
  rw [← ezz] at hx
  obtain ⟨q, hq⟩ := S.2.2.1
  have m1 := r_decodes (d := d + 14) hx hq hm hk
  obtain ⟨c1, ec1⟩ : ∃ c1, c1 = cQ c (srQ m k q (m - 2)) := ⟨_, rfl⟩
  rw [← ec1] at m1
  have o1 : ∀ i, i ≠ 78 → c1 i = c i := fun i hi => by rw [ec1]; exact up1_ne _ _ hi
  have S1 : SC c1 := by rw [ec1]; exact S.r78
  have hx1 : c1 70 = moL zz := (o1 70 (by decide)).trans hx
  obtain ⟨o, ho⟩ := S1.1
  rw [sv_any] at ho
  obtain ⟨w1, ew1⟩ : ∃ w1 : Nat → Nat, w1 = fun i => o (10 + i) := ⟨_, rfl⟩
  rw [← ew1] at ho
  have m2 := r_grows (d := d + 13) hx1 ho (q := srQ m k q (m - 2)) (by rw [ec1]; exact up1_same _ _ _) h1 hm (fun i hi => by rw [srQ_all hi]; exact rkD_lt h1)
  rw [plT_rk] at m2
  obtain ⟨c2, ec2⟩ : ∃ c2, c2 = cG c1 zz m (rkT m k) w1 := ⟨_, rfl⟩
  rw [← ec2] at m2
  have hx2 : c2 70 = moL (up1 zz 10 (nI m)) := by rw [ec2]; exact up1_same _ _ _
  have h72 : c2 72 = ar 20 (fun i => nI (sv (rkT m k) w1 i)) := by rw [ec2]; exact (up1_ne _ _ (by decide)).trans (up1_same _ _ _)
  have o2 : ∀ i, i ≠ 70 → i ≠ 72 → c2 i = c1 i := fun i a b => by rw [ec2]; exact (up1_ne _ _ a).trans (up1_ne _ _ b)
  have S2 : SC c2 := (S1.r72 (o := sv (rkT m k) w1)).same (fun i hi => by rw [ec2]; exact up1_ne _ _ (by omega))
  have FT := (rkT_F (r := k) h1 hm).1
  have V2 : VW c2 m (rkT m k) := ⟨hm, FT.1.k hm, _, hx2, Or.inr ⟨by rw [ezz]; rfl, rfl, _, h72⟩⟩
  have al1 : al m < 1024 := by
    have := pow_le10 hm
    have : al m < 2 ^ m := Nat.sub_lt (Nat.two_pow_pos m) (by decide)
    omega
  have m3 := r_diameter (d := d + 11) V2 (GOK_of FT.1 hm) al1
  rw [mx_ec FT.1 hm] at m3
  have Y2 : MWt c2 w := ⟨R.w99, g, by rw [o2 71 (by decide) (by decide), o1 71 (by decide), fr 71 (by decide) (by decide) (by decide) (by decide) (by decide)]; exact R.row⟩
  obtain ⟨K0, hK0⟩ := S2.2.1
  obtain ⟨K', m4⟩ := r_wordOfSet (d := d) V2 (GOK_of FT.1 hm) Y2 (WOK_of FT hm) al1 (K := K0)
  rw [show cK c2 K0 = c2 from up1_id hK0, Sw_w (w2 := fun _ => 0)] at m4
  obtain ⟨c3, ec3⟩ : ∃ c3, c3 = cK c2 K' := ⟨_, rfl⟩
  rw [← ec3] at m4
  have o3 : ∀ i, i ≠ 76 → c3 i = c2 i := fun i a => by rw [ec3]; exact up1_ne _ _ a
  have S3 : SC c3 := by rw [ec3]; exact S2.r76
  have hx3 : c3 70 = moL (up1 zz 10 (nI m)) := (o3 70 (by decide)).trans hx2
  have h81 : c3 81 = ar 40 r := by rw [o3 81 (by decide), o2 81 (by decide) (by decide), o1 81 (by decide)]; exact hr
  obtain ⟨r4, er4⟩ : ∃ r4, r4 = up1 r cw (nI (svV m k)) := ⟨_, rfl⟩
  obtain ⟨c4, ec4⟩ : ∃ c4, c4 = up1 c3 81 (ar 40 r4) := ⟨_, rfl⟩
  have e4 : (hp c3).set 81 (100, (ar 40 r).set (nI cw).toNatClampNeg (.int (nI (svV m k)))) = hp c4 := by rw [cl_nI (by omega), ar_set, hp_set (by decide) (by decide), ec4, er4]
  have hx4 : c4 70 = moL (up1 zz 10 (nI m)) := by rw [ec4]; exact (up1_ne _ _ (by decide)).trans hx3
  have H81 : (hp c4)[81]? = some (100, ar 40 r4) := hp_is 81 100 (by rw [ec4]; exact up1_same _ _ _) (by decide) (by decide)
  have hcs : cnU (nwB (svV m)) (k + 1) = if nwB (svV m) k = true then cw + 1 else cw := by rw [cnU_s, ecw]
  have vb : ∀ i, svV m i < 1048576 := fun i => sv_lt h1 hm
  have J4 : SJ c0 c4 z0 m (k + 1) := by
    refine ⟨fun i a b c' e h => ?_, ?_, ⟨nI m, ?_⟩, r4, by rw [ec4]; exact up1_same _ _ _, ?_, ?_⟩
    · rw [ec4, up1_ne _ _ h, o3 i c', o2 i a b, o1 i e]; exact fr i a b c' e h
    · rw [ec4]; exact S3.r81
    · rw [hx4, ezz]
      have e : ∀ u v : Int32, moL (up1 (up1 (up1 z0 10 u) 9 1) 10 v) = moL (up1 (up1 z0 10 v) 9 1) := fun u v => rfl
      exact e _ _
    · rw [hcs]
      intro j hj
      by_cases e : j = cw
      · exact ⟨k, by omega, by rw [er4, e, up1_same]⟩
      · have hj2 : j < cw := by
          split at hj <;> omega
        obtain ⟨i, hi, e2⟩ := E1 j hj2
        exact ⟨i, by omega, by rw [er4, up1_ne _ _ e]; exact e2⟩
    · rw [hcs]
      intro i hi
      by_cases e : i = k
      · by_cases hn : nwB (svV m) k = true
        · rw [if_pos hn]
          exact ⟨cw, by omega, by rw [er4, e, up1_same]⟩
        · rw [if_neg hn]
          have : ∃ i', i' < k ∧ svV m i' = svV m k := Classical.byContradiction fun h => hn (nwB_iff.mpr (fun q hq e => h ⟨q, hq, e⟩))
          obtain ⟨i', hi', e'⟩ := this
          obtain ⟨j, hj, ej⟩ := E2 i' hi'
          exact ⟨j, hj, by rw [er4, up1_ne _ _ (by omega), ej, e', e]⟩
      · obtain ⟨j, hj, ej⟩ := E2 i (by omega)
        refine ⟨j, by split <;> omega, by rw [er4, up1_ne _ _ (by omega)]; exact ej⟩
  have ed : (1 : Int32) <<< (nI m &&& 31) - 1 = nI (al m) := i_al hm
  refine ⟨c4, J4, fun P K4 => ?_⟩
  refine b_X10_survey_59 (mo_H hx) m1 (mo_H hx1) m2 (mo_H hx2) (by rw [ed]; exact m3) (mo_H hx2) rfl (mo_H hx2) (by rw [ed]; exact m4) (hp_is 81 100 h81 (by decide) (by decide)) (nI_pos (by omega)) (by rw [cl_nI (by omega), ar_len]; exact hc) ?_
  have e4' : (hp c3).set 81 (100, (ar 40 r).set (nI cw).toNatClampNeg (.int (nI (Sw (rkT m k) (fun _ => 0) m (al m))))) = hp c4 := e4
  rw [e4']
  have loop : ∀ j l, l + j = cw → (∀ i, i < l → r4 i ≠ nI (svV m k)) → SW none m_X10_survey (d + 16) 0 0 104 [some (.ref 70), some (.int (nI m)), some (.int what), some (.int (nI cw)), some (.int lz), some (.int (sz + nI (svD m k))), some (.int (nI k)), none, some (.int (nI l))] [] (hp c4) P := by
    intro j
    induction j with
    | zero =>
      intro l hl hno
      have hl : l = cw := by omega
      subst hl
      have hw : r4 l = nI (svV m k) := by rw [er4, up1_same]
      have hnew : nwB (svV m) k = true := nwB_iff.mpr (fun i hi e => by
        obtain ⟨j, hj, ej⟩ := E2 i hi
        refine hno j hj ?_
        rw [er4, up1_ne _ _ (by omega), ej, e])
      refine b_X10_survey_104 (mo_H hx4) rfl H81 (nI_pos (by omega)) (by rw [cl_nI (by omega)]; exact ar_at _ hc) (mo_H hx4) rfl H81 (nI_pos (by omega)) (by rw [cl_nI (by omega)]; exact ar_at _ hc) (fun _ => b_X10_survey_126 (fun _ => b_X10_survey_135 (b_X10_survey_142 ?_)) (fun q => absurd (nI_le (Nat.le_refl l) (by omega)) q)) (fun q => absurd rfl q)
      rw [hcs, if_pos hnew, if_pos hnew] at K4
      rw [nI_1, nI_1]; exact K4
    | succ j ih =>
      intro l hl hno
      have hlc : l < cw := by omega
      have hat : (ar 40 r4)[(nI l).toNatClampNeg]? = some (.int (r4 l)) := by rw [cl_nI (by omega)]; exact ar_at _ (by omega)
      have hat2 : (ar 40 r4)[(nI cw).toNatClampNeg]? = some (.int (nI (svV m k))) := by rw [cl_nI (by omega), ar_at _ hc, er4, up1_same]
      refine b_X10_survey_104 (mo_H hx4) rfl H81 (nI_pos (by omega)) hat (mo_H hx4) rfl H81 (nI_pos (by omega)) hat2 (fun q => b_X10_survey_126 (fun q2 => absurd q2 (nI_ge hlc (by omega))) (fun _ => b_X10_survey_132 (b_X10_survey_142 ?_))) (fun q => b_X10_survey_120 ?_)
      · have hold : ¬ nwB (svV m) k = true := fun hn => by
          obtain ⟨i, hi, ei⟩ := E1 l hlc
          have hrl : r4 l = r l := by rw [er4, up1_ne _ _ (by omega)]
          rw [hrl, ei] at q
          have := vb i
          have := vb k
          exact nwB_iff.mp hn i hi ((i_eq (by omega) (by omega)).mp q)
        rw [hcs, if_neg hold, if_neg hold] at K4
        rw [nI_1]; exact K4
      · rw [nI_1]
        refine ih (l + 1) (by omega) (fun i hi => ?_)
        by_cases e : i = l
        · rw [e]; exact q
        · exact hno i (by omega)
  exact loop cw 0 (by omega) (fun i h => absurd h (Nat.not_lt_zero i))
theorem q_survey (R : RF c n g w) {a : Nat} (h1 : 1 ≤ m) (hm : m ≤ 6) (ha : a < 3) (hb : ∀ k, k ≤ m ^ (m - 2) → cnU (nwB (svV m)) k < 40) : ∃ c', MSE m_X10_survey (d + 16) [.ref 70, .int (nI m), .int (nI a)] (hp c) (some (.int (nI (svA m a (m ^ (m - 2)))))) (hp c') ∧ QF c c' 0 := by
  obtain ⟨z, hz, h9, h6⟩ := R.Z
  have hm10 : m ≤ 10 := by omega
  have Q := QF.th (t := 0) R.S hz
  have R1 := R.q Q
  have hp2 := pow_trees m hm10
  obtain ⟨z1, ez1⟩ : ∃ z1, z1 = up1 z 0 (nI 0) := ⟨_, rfl⟩
  obtain ⟨c1, ec1⟩ : ∃ c1, c1 = cT c z (nI 0) := ⟨_, rfl⟩
  have hz1 : c1 70 = moL z1 := by rw [ec1, ez1]; exact up1_same _ _ _
  have mf : MSE m_X10_fails (d + 15) [.ref 70, .int 0, .int 0] (hp c) (some (.int 0)) (hp c1) := by rw [ec1]; exact r_fails0 hz
  rw [← ec1] at R1 Q
  have h61 : z1 6 = nI n := by rw [ez1]; exact h6
  have h91 : z1 9 = 0 := by rw [ez1]; exact h9
  obtain ⟨c2, ec2⟩ : ∃ c2, c2 = up1 c1 70 (moL (up1 (up1 z1 10 (z1 10)) 9 1)) := ⟨_, rfl⟩
  have e2 : (hp c1).set 70 (10, (moL z1).set 9 (.int 1)) = hp c2 := by
    rw [show (moL z1).set 9 (.int 1) = moL (up1 (up1 z1 10 (z1 10)) 9 1) from rfl, hp_set (by decide) (by decide), ec2]
  obtain ⟨r0, hr0⟩ := R1.S.2.2.2.2
  have J0 : SJ c1 c2 z1 m 0 := by
    refine ⟨fun i a _ _ _ _ => by rw [ec2]; exact up1_ne _ _ a, by rw [ec2]; exact R1.S.off (by decide), ⟨_, by rw [ec2]; exact up1_same _ _ _⟩, r0, by rw [ec2]; exact (up1_ne _ _ (by decide)).trans hr0, fun j hj => absurd hj (Nat.not_lt_zero j), fun i hi => absurd hi (Nat.not_lt_zero i)⟩
  have fin : ∀ j k c3, k + j = m ^ (m - 2) → SJ c1 c3 z1 m k → ∃ c', SW none m_X10_survey (d + 16) 0 0 50 [some (.ref 70), some (.int (nI m)), some (.int (nI a)), some (.int (nI (cnU (nwB (svV m)) k))), some (.int (nI (svL m k))), some (.int (nI (tsU (svD m) k))), some (.int (nI k)), none, none] [] (hp c3) (rI (nI (svA m a (m ^ (m - 2)))) (hp c')) ∧ QF c c' 0 := by
    intro j
    induction j with
    | zero =>
      intro k c3 hk J
      have hk : k = m ^ (m - 2) := by omega
      obtain ⟨fr, S, ⟨x, hx⟩, -⟩ := J
      have e3 : (hp c3).set 70 (10, (moL (up1 (up1 z1 10 x) 9 1)).set 9 (.int 0)) = hp (up1 c3 70 (moL (up1 z1 10 x))) := by
        have : (moL (up1 (up1 z1 10 x) 9 1)).set 9 (.int 0) = moL (up1 z1 10 x) := by
          have e5 : (moL (up1 (up1 z1 10 x) 9 1)).set 9 (.int 0) = moL (up1 (up1 z1 10 x) 9 0) := rfl
          rw [e5]
          congr 1
          funext i
          by_cases e : i = 9
          · rw [e, up1_same, up1_ne _ _ (by decide), h91]
          · rw [up1_ne _ _ e]
        rw [this, hp_set (by decide) (by decide)]
      refine ⟨up1 c3 70 (moL (up1 z1 10 x)), b_X10_survey_50 (r_ranks (d := d + 14) hm10) (fun _ => b_X10_survey_148 (mo_H hx) (by show 9 < 27; decide) (by decide) (fun q => ?_) (fun q => ?_)) (fun q => absurd (nI_le (show m ^ (m - 2) ≤ k by omega) (by omega)) q), ?_⟩
      · rw [e3]
        have ha0 : ¬ a = 0 := fun e => q (by rw [e]; rfl)
        refine b_X10_survey_161 (fun q2 => b_X10_survey_171 (b_X10_survey_173 ⟨?_, rfl⟩)) (fun q2 => b_X10_survey_166 (b_X10_survey_173 ⟨?_, rfl⟩))
        · unfold svA
          rw [if_neg ha0, if_neg (fun e => q2 (by rw [e]; rfl)), hk]
        · unfold svA
          rw [if_neg ha0, if_pos ((i_eq (b := 1) (by omega) (by decide)).mp q2), hk]
      · rw [e3]
        refine b_X10_survey_157 (b_X10_survey_173 ⟨?_, rfl⟩)
        unfold svA
        rw [if_pos ((i_eq0 (by omega)).mp q), hk]
      · refine ⟨fun i a1 a2 a3 a4 a5 a6 => ?_, S.off (by decide), x, ?_⟩
        · rw [up1_ne _ _ a1, fr i a1 a2 a3 a4 a6]
          exact Q.1 i a1 a2 a3 a4 a5 a6
        · rw [up1_same, hz, ez1]; rfl
    | succ j ih =>
      intro k c3 hk J
      obtain ⟨c4, J4, st⟩ := SJ.step (d := d) J h61 R1 h1 hm10 (by omega) (hb k (by omega)) (lz := nI (svL m k)) (sz := nI (tsU (svD m) k)) (what := nI a)
      obtain ⟨c5, s5, Q5⟩ := ih (k + 1) c4 (by omega) J4
      refine ⟨c5, b_X10_survey_50 (r_ranks (d := d + 14) hm10) (fun q => absurd q (nI_ge (show k < m ^ (m - 2) by omega) (by omega))) (fun _ => st _ ?_), Q5⟩
      have eL : (if nwB (svV m) k = true then nI k else nI (svL m k)) = nI (svL m (k + 1)) := by
        show _ = nI (if nwB (svV m) k = true then k else svL m k)
        split <;> rfl
      rw [eL, nI_add]
      exact s5
  obtain ⟨c', s, Q'⟩ := fin (m ^ (m - 2)) 0 c2 (by omega) J0
  exact ⟨c', e_X10_survey (b_X10_survey_0 (isIn_1 (a := 1) (m := 6) (by decide) (by decide) h1 hm) (fun q => absurd q (by decide)) (fun _ => b_X10_survey_11 (isIn_1 (a := 0) (m := 2) (by decide) (by decide) (Nat.zero_le _) (by omega)) (fun _ => b_X10_survey_24 (b_X10_survey_25 (mo_H hz) mf (fun _ => b_X10_survey_34 (mo_H hz1) (by show 9 < 27; decide) (by decide) (by rw [e2]; exact s)) (fun q => absurd rfl q))) (fun q => absurd q (by decide)))), Q'⟩
theorem q_surveyX (R : RF c n g w) (h : (x < 1 ∨ 6 < x) ∨ (y < 0 ∨ 2 < y)) : ∃ c', MSE m_X10_survey (d + 16) [.ref 70, .int x, .int y] (hp c) (some (.int 0)) (hp c') ∧ QF c c' 1 := by
  obtain ⟨z, hz, h9, h6⟩ := R.Z
  have fin : SW none m_X10_survey (d + 16) 0 0 20 [some (.ref 70), some (.int x), some (.int y), none, none, none, none, none, none] [.ref 70] (hp c) (rI 0 (hp (cT c z (nI 1)))) := b_X10_survey_20 (b_X10_survey_25 (mo_H hz) (r_fails1 hz) (fun q => absurd q (by decide)) (fun _ => b_X10_survey_32 ⟨rfl, rfl⟩))
  by_cases hx : x < 1 ∨ 6 < x
  · exact ⟨_, e_X10_survey (b_X10_survey_0 (isIn_0 hx) (fun _ => fin) (fun q => absurd rfl q)), QF.th R.S hz⟩
  · have hy : y < 0 ∨ 2 < y := by
      rcases h with h | h
      · exact absurd h hx
      · exact h
    have m1 := r_isIn (d := d + 15) (h := hp c) (x := x) (a := 1) (b := 6)
    rw [if_neg hx] at m1
    exact ⟨_, e_X10_survey (b_X10_survey_0 m1 (fun _ => fin) (fun _ => b_X10_survey_11 (isIn_0 hy) (fun q => absurd rfl q) (fun _ => fin))), QF.th R.S hz⟩
end
