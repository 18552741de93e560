section
variable {d m n t k : Nat} {c c' : Nat → List Value} {z : Nat → Int32} {g w : Nat → Nat} {x y : Int32}
theorem SVB.off (S : SVB c) (h : ∀ i, (30 < i ∧ i < 33) ∨ (39 < i ∧ i < 55) → c' i = c i) : SVB c' := by
  obtain ⟨a1, a2, ⟨n0, g0, w0, a3, a4, a5, a6⟩, a7, ⟨q, a8⟩, ⟨kw, V, W, x1, x2, x3, x4, x5⟩, k5, q5, a9, a10, a11⟩ := S
  refine ⟨(h 31 (by decide)).trans a1, (h 32 (by decide)).trans a2, ⟨n0, g0, w0, (h 40 (by decide)).trans a3, (h 41 (by decide)).trans a4, (h 42 (by decide)).trans a5, a6⟩, (h 43 (by decide)).trans a7, ⟨q, (h 44 (by decide)).trans a8⟩, ⟨kw, V, W, (h 45 (by decide)).trans x1, (h 51 (by decide)).trans x2, x3, fun i hi => (h _ ?_).trans (x4 i hi), x5⟩, k5, q5, (h 53 (by decide)).trans a9, (h 54 (by decide)).trans a10, a11⟩
  unfold wA; split <;> omega
def ANS (c : Nat → List Value) : Prop := ∀ i, i < 7 → ∃ A : Nat → Int32, c (33 + i) = ar 3 A ∧ (1 ≤ i → A 0 = 0 ∨ ∀ a, a < 3 → A a = nI (svA i a (i ^ (i - 2))))
theorem svG_at (hm : m < 7) : svG[(nI m).toNatClampNeg]? = some (.ref (33 + m)) := by
  rw [cl_nI (by omega)]
  rcases (show m = 0 ∨ m = 1 ∨ m = 2 ∨ m = 3 ∨ m = 4 ∨ m = 5 ∨ m = 6 by omega) with h | h | h | h | h | h | h <;> subst h <;> rfl
theorem kd_an (hm : m < 7) : kd (33 + m) = 100 := by
  rcases (show m = 0 ∨ m = 1 ∨ m = 2 ∨ m = 3 ∨ m = 4 ∨ m = 5 ∨ m = 6 by omega) with h | h | h | h | h | h | h <;> subst h <;> decide
theorem cnU_new : 0 < m ^ (m - 2) → 0 < cnU (nwB (svV m)) (m ^ (m - 2)) := fun h => cnU_pos _ 0 h (nwB_iff.mpr (fun i hi => absurd hi (Nat.not_lt_zero i)))
theorem s_goThrough (S : SVB c) (A : ANS c) (h1 : 1 ≤ m) (hm : m ≤ 6) : ∃ c', MSE m_X7_goThrough (d + 5) [.ref 31, .int (nI m)] (hp c) none (hp c') ∧ SVB c' ∧ ANS c' ∧ (∀ i, i < 31 ∨ 54 < i → c' i = c i) ∧ ∃ B : Nat → Int32, c' (33 + m) = ar 3 B ∧ ∀ a, a < 3 → B a = nI (svA m a (m ^ (m - 2))) := by
  have hm10 : m ≤ 10 := by omega
  have hR := pow_trees m hm10
  have hR0 : 0 < m ^ (m - 2) := Nat.pow_pos h1
  obtain ⟨B, hB, hBA⟩ := A m (by omega)
  have S0 := S
  obtain ⟨a1, a2, ⟨n0, g0, w0, a3, a4, a5, a6, a6'⟩, a7, ⟨q, a8⟩, ⟨kw, V, W, X⟩, k5, q5, a9, a10, a11⟩ := S
  have H31 := hp_is (c := c) 31 7 a1 (by decide) (by decide)
  have H32 := hp_is (c := c) 32 104 a2 (by decide) (by decide)
  have Hrow := hp_is (c := c) (33 + m) 100 hB (by omega) (kd_an (by omega))
  have hat : (ar 3 B)[(0 : Int32).toNatClampNeg]? = some (.int (B 0)) := ar_at (n := 3) (i := 0) B (by decide)
  by_cases h0 : B 0 = 0
  · have Fo : FO (hp c) 40 41 42 n0 g0 w0 := hp_fo 40 41 42 a3 a4 a5 (by decide) a6 a6' (by decide) (by decide) (by decide)
    have m1 := s_forget (d := d + 4) (h := hp c) (m := 53) (a := 54) (c := k5) (q := q5) ⟨hp_is 53 4 a9 (by decide) (by decide), hp_is 54 100 a10 (by decide) (by decide), a11⟩
    rw [hp_set (by decide) (by decide)] at m1
    obtain ⟨c1, ec1⟩ : ∃ c1, c1 = up1 c 53 [.ref 54, .int (nI 0)] := ⟨_, rfl⟩
    rw [← ec1] at m1
    have o1 : ∀ i, i ≠ 53 → c1 i = c i := fun i hi => by rw [ec1]; exact up1_ne _ _ hi
    have F1 : FO (hp c1) 40 41 42 n0 g0 w0 := hp_fo 40 41 42 ((o1 40 (by decide)).trans a3) ((o1 41 (by decide)).trans a4) ((o1 42 (by decide)).trans a5) (by decide) a6 a6' (by decide) (by decide) (by decide)
    have m2 := s_clear (d := d + 2) F1 h1 hm10
    rw [hp_set (by decide) (by decide), hp_set (by decide) (by decide), hp_set (by decide) (by decide)] at m2
    obtain ⟨c2, ec2⟩ : ∃ c2, c2 = up1 (up1 (up1 c1 40 [.ref 41, .ref 42, .int (nI m)]) 41 (ar 10 (fun _ => nI 0))) 42 (ar 10 (fun _ => nI 1)) := ⟨_, rfl⟩
    rw [← ec2] at m2
    have o2 : ∀ i, i ≠ 40 → i ≠ 41 → i ≠ 42 → i ≠ 53 → c2 i = c i := fun i b1 b2 b3 b4 => by rw [ec2, up1_ne _ _ b3, up1_ne _ _ b2, up1_ne _ _ b1]; exact o1 i b4
    have J0 : SK0 c2 m := ⟨(o2 31 (by decide) (by decide) (by decide) (by decide)).trans a1, by rw [ec2, up1_ne _ _ (by decide), up1_ne _ _ (by decide)]; exact up1_same _ _ _, by rw [ec2]; exact up1_same _ _ _, (o2 43 (by decide) (by decide) (by decide) (by decide)).trans a7⟩
    have J : SK c2 c2 m 0 := by
      refine ⟨fun _ _ => rfl, ⟨fun _ => 0, by rw [ec2, up1_ne _ _ (by decide)]; exact up1_same _ _ _, fun _ => (by decide : 0 < 1024)⟩, ⟨q, (o2 44 (by decide) (by decide) (by decide) (by decide)).trans a8⟩, ⟨kw, V, W, ?_⟩, ?_, q5, (o2 54 (by decide) (by decide) (by decide) (by decide)).trans a10, fun j hj => absurd hj (Nat.not_lt_zero j), fun i hi => absurd hi (Nat.not_lt_zero i)⟩
      · obtain ⟨x1, x2, x3, x4, x5⟩ := X
        refine ⟨(o2 45 (by decide) (by decide) (by decide) (by decide)).trans x1, (o2 51 (by decide) (by decide) (by decide) (by decide)).trans x2, x3, fun i hi => (o2 _ ?_ ?_ ?_ ?_).trans (x4 i hi), x5⟩
        all_goals unfold wA; split <;> omega
      · rw [ec2, up1_ne _ _ (by decide), up1_ne _ _ (by decide), up1_ne _ _ (by decide), ec1]; exact up1_same _ _ _
    have row2 : c2 (33 + m) = ar 3 B := (o2 _ (by omega) (by omega) (by omega) (by omega)).trans hB
    have fin : ∀ j k c3, k + j = m ^ (m - 2) → SK c2 c3 m k → ∃ c', SW none m_X7_goThrough (d + 5) 0 0 45 [some (.ref 31), some (.int (nI m)), some (.int (if k = 0 then -1 else nI (svL m k))), some (.int (nI (tsU (svD m) k))), some (.int (nI k)), none] [] (hp c3) (rV (hp c')) ∧ SVB c' ∧ (∀ i, i < 31 ∨ 54 < i ∨ (32 < i ∧ i < 40 ∧ i ≠ 33 + m) → c' i = c2 i) ∧ ∃ B : Nat → Int32, c' (33 + m) = ar 3 B ∧ ∀ a, a < 3 → B a = nI (svA m a (m ^ (m - 2))) := by
      intro j
      induction j with
      | zero =>
        intro k c3 hk J3
        have hk : k = m ^ (m - 2) := by omega
        have hk0 : ¬ k = 0 := by omega
        rw [if_neg hk0]
        obtain ⟨fr, ⟨g3, b41, bg⟩, ⟨q3, b44⟩, ⟨kw3, V3, W3, X3⟩, b53, q53, b54, -, -⟩ := J3
        obtain ⟨i31, i40, i42, i43⟩ := J0
        have hcb := svB h1 hm (k := k) (by omega)
        have b31 : c3 31 = sv31 := (fr 31 (by decide)).trans i31
        have b32 : c3 32 = svG := (fr 32 (by decide)).trans ((o2 32 (by decide) (by decide) (by decide) (by decide)).trans a2)
        have brow : c3 (33 + m) = ar 3 B := (fr _ (by omega)).trans row2
        have G : ∀ (r : Nat → Int32), (hp (up1 c3 (33 + m) (ar 3 r)))[31]? = some (7, sv31) ∧ (hp (up1 c3 (33 + m) (ar 3 r)))[32]? = some (104, svG) ∧ (hp (up1 c3 (33 + m) (ar 3 r)))[33 + m]? = some (100, ar 3 r) := fun r => ⟨hp_is 31 7 ((up1_ne _ _ (by omega)).trans b31) (by decide) (by decide), hp_is 32 104 ((up1_ne _ _ (by omega)).trans b32) (by decide) (by decide), hp_is (33 + m) 100 (up1_same _ _ _) (by omega) (kd_an (by omega))⟩
        obtain ⟨cw, ecw⟩ : ∃ cw, cw = cnU (nwB (svV m)) k := ⟨_, rfl⟩
        rw [← ecw] at b53
        have t1 : (hp c3).set (33 + m) (100, (ar 3 B).set (0 : Int32).toNatClampNeg (.int (nI cw))) = hp (up1 c3 (33 + m) (ar 3 (up1 B 0 (nI cw)))) := by
          rw [show (0 : Int32).toNatClampNeg = 0 from rfl, ar_set, hp_set (by omega) (kd_an (by omega))]
        have t2 : (hp (up1 c3 (33 + m) (ar 3 (up1 B 0 (nI cw))))).set (33 + m) (100, (ar 3 (up1 B 0 (nI cw))).set (1 : Int32).toNatClampNeg (.int (nI (svL m k)))) = hp (up1 c3 (33 + m) (ar 3 (up1 (up1 B 0 (nI cw)) 1 (nI (svL m k))))) := by
          rw [show (1 : Int32).toNatClampNeg = 1 from rfl, ar_set, hp_set (by omega) (kd_an (by omega)), up1_up1]
        have t3 : (hp (up1 c3 (33 + m) (ar 3 (up1 (up1 B 0 (nI cw)) 1 (nI (svL m k)))))).set (33 + m) (100, (ar 3 (up1 (up1 B 0 (nI cw)) 1 (nI (svL m k)))).set (2 : Int32).toNatClampNeg (.int (nI (tsU (svD m) k)))) = hp (up1 c3 (33 + m) (ar 3 (up1 (up1 (up1 B 0 (nI cw)) 1 (nI (svL m k))) 2 (nI (tsU (svD m) k))))) := by
          rw [show (2 : Int32).toNatClampNeg = 2 from rfl, ar_set, hp_set (by omega) (kd_an (by omega)), up1_up1]
        refine ⟨up1 c3 (33 + m) (ar 3 (up1 (up1 (up1 B 0 (nI cw)) 1 (nI (svL m k))) 2 (nI (tsU (svD m) k)))), b_X7_goThrough_45 (s_treesWith (d := d + 2) (by omega)) (fun _ => b_X7_goThrough_152 (x8 := nI cw) (hp_is 31 7 b31 (by decide) (by decide)) rfl (hp_is 32 104 b32 (by decide) (by decide)) (nI_pos (by omega)) (svG_at (by omega)) (hp_is 31 7 b31 (by decide) (by decide)) rfl (hp_is (v := [.ref 54, .int (nI cw)]) 53 4 b53 (by decide) (by decide)) rfl (hp_is (33 + m) 100 brow (by omega) (kd_an (by omega))) (by decide) (by rw [ar_len]; decide) (by rw [t1]; exact (G _).1) rfl (by rw [t1]; exact (G _).2.1) (nI_pos (by omega)) (svG_at (by omega)) (by rw [t1]; exact (G _).2.2) (by decide) (by rw [ar_len]; decide) (by rw [t1, t2]; exact (G _).1) rfl (by rw [t1, t2]; exact (G _).2.1) (nI_pos (by omega)) (svG_at (by omega)) (by rw [t1, t2]; exact (G _).2.2) (by decide) (by rw [ar_len]; decide) ⟨rfl, by rw [t1, t2, t3]⟩) (fun q => absurd (nI_le (show m ^ (m - 2) ≤ k by omega) (by omega)) q), ?_, ?_, _, up1_same _ _ _, ?_⟩
        · have SB3 : SVB c3 := ⟨b31, b32, ⟨m, g3, fun _ => 1, (fr 40 (by decide)).trans i40, b41, (fr 42 (by decide)).trans i42, hm10, bg⟩, (fr 43 (by decide)).trans i43, ⟨q3, b44⟩, ⟨kw3, V3, W3, X3⟩, cw, q53, b53, b54, by omega⟩
          exact SB3.off (fun i hi => up1_ne _ _ (by omega))
        · intro i hi
          rw [up1_ne _ _ (by omega)]
          exact fr i (by omega)
        · intro a ha
          unfold svA
          rcases (show a = 0 ∨ a = 1 ∨ a = 2 by omega) with h | h | h <;> subst h
          · rw [if_pos rfl, up1_ne _ _ (by decide), up1_ne _ _ (by decide), up1_same, ecw, hk]
          · rw [if_neg (by decide), if_pos rfl, up1_ne _ _ (by decide), up1_same, hk]
          · rw [if_neg (by decide), if_neg (by decide), up1_same, hk]
      | succ j ih =>
        intro k c3 hk J3
        obtain ⟨c4, J4, st⟩ := SK.step (d := d) J3 J0 h1 hm10 (by omega) (svB h1 hm (by omega)) (lz := if k = 0 then -1 else nI (svL m k)) (sz := nI (tsU (svD m) k))
        obtain ⟨c5, s5, r5⟩ := ih (k + 1) c4 (by omega) J4
        refine ⟨c5, b_X7_goThrough_45 (s_treesWith (d := d + 2) (by omega)) (fun q => absurd q (nI_ge (show k < m ^ (m - 2) by omega) (by omega))) (fun _ => st _ ?_), r5⟩
        have eL : (if nwB (svV m) k = true then nI k else if k = 0 then -1 else nI (svL m k)) = if k + 1 = 0 then -1 else nI (svL m (k + 1)) := by
          rw [if_neg (show ¬ k + 1 = 0 by omega)]
          show _ = nI (if nwB (svV m) k = true then k else svL m k)
          by_cases hn : nwB (svV m) k = true
          · rw [if_pos hn, if_pos hn]
          · rw [if_neg hn, if_neg hn, if_neg]
            exact fun e => hn (nwB_iff.mpr (fun i hi => by omega))
        rw [eL, nI_add]
        exact s5
    obtain ⟨c', s', SB', fr', B', hB', hBv'⟩ := fin (m ^ (m - 2)) 0 c2 (by omega) J
    refine ⟨c', e_X7_goThrough (b_X7_goThrough_0 (fun q => absurd q (nI_nlt (a := m) (b := 1) h1 (by omega))) (fun _ => b_X7_goThrough_5 (fun q => absurd q (nI_nlt (a := 6) (b := m) hm (by omega))) (fun _ => b_X7_goThrough_11 H31 rfl H32 (nI_pos (by omega)) (svG_at (by omega)) Hrow (by decide) hat (fun _ => b_X7_goThrough_23 H31 rfl (hp_is 53 4 a9 (by decide) (by decide)) m1 (hp_is 31 7 ((o1 31 (by decide)).trans a1) (by decide) (by decide)) rfl F1.1 m2 s') (fun q => absurd h0 q)))), SB', fun i hi => ?_, fun i hi => ?_, B', hB', hBv'⟩
    · by_cases e : i = m
      · rw [e]; exact ⟨B', hB', fun _ => Or.inr hBv'⟩
      · obtain ⟨A1, hA1, hA2⟩ := A i hi
        exact ⟨A1, by rw [fr' _ (by omega), o2 _ (by omega) (by omega) (by omega) (by omega)]; exact hA1, hA2⟩
    · rw [fr' i (by omega), o2 i (by omega) (by omega) (by omega) (by omega)]
  · have hv : ∀ a, a < 3 → B a = nI (svA m a (m ^ (m - 2))) := by
      rcases hBA h1 with h | h
      · exact absurd h h0
      · exact h
    exact ⟨c, e_X7_goThrough (b_X7_goThrough_0 (fun q => absurd q (nI_nlt (a := m) (b := 1) h1 (by omega))) (fun _ => b_X7_goThrough_5 (fun q => absurd q (nI_nlt (a := 6) (b := m) hm (by omega))) (fun _ => b_X7_goThrough_11 H31 rfl H32 (nI_pos (by omega)) (svG_at (by omega)) Hrow (by decide) hat (fun q => absurd q h0) (fun _ => b_X7_goThrough_22 ⟨rfl, rfl⟩)))), S0, A, fun _ _ => rfl, B, hB, hv⟩
theorem s_answer {B : Nat → Int32} (S : SVB c) (h1 : 1 ≤ m) (hm : m ≤ 6) (hB : c (33 + m) = ar 3 B) {a : Nat} (ha : a < 3) : MSE m_X7_answer d [.ref 31, .int (nI m), .int (nI a)] (hp c) (some (.int (B a))) (hp c) := by
  have H31 := hp_is (c := c) 31 7 S.1 (by decide) (by decide)
  have H32 := hp_is (c := c) 32 104 S.2.1 (by decide) (by decide)
  have Hrow := hp_is (c := c) (33 + m) 100 hB (by omega) (kd_an (by omega))
  exact e_X7_answer (b_X7_answer_0 (fun q => absurd q (nI_nlt (a := m) (b := 1) h1 (by omega))) (fun _ => b_X7_answer_5 (fun q => absurd q (nI_nlt (a := 6) (b := m) hm (by omega))) (fun _ => b_X7_answer_11 (fun q => absurd q (nI_pos (by omega))) (fun _ => b_X7_answer_15 (fun q => absurd q (nI_ge (a := a) (b := 3) ha (by decide))) (fun _ => b_X7_answer_20 (b_X7_answer_25 (fun q => absurd q (by decide)) (fun _ => b_X7_answer_30 H31 rfl H32 (nI_pos (by omega)) (svG_at (by omega)) Hrow (nI_pos (by omega)) (by rw [cl_nI (by omega)]; exact ar_at _ ha) (b_X7_answer_42 ⟨rfl, rfl⟩))))))))
theorem t_survey (h0 : c 0 = x0L) (S : SVB c) (A : ANS c) (h1 : 1 ≤ m) (hm : m ≤ 6) {a : Nat} (ha : a < 3) : ∃ c', MSE m_X9_survey (d + 6) [.ref 0, .int (nI m), .int (nI a)] (hp c) (some (.int (nI (svA m a (m ^ (m - 2)))))) (hp c') ∧ SVB c' ∧ ANS c' ∧ ∀ i, i < 31 ∨ 54 < i → c' i = c i := by
  obtain ⟨c', m1, S', A', fr, B, hB, hv⟩ := s_goThrough (d := d) S A h1 hm
  have m2 := s_answer (d := d + 5) S' h1 hm hB ha
  rw [hv a ha] at m2
  have H0 := hp_is (c := c) 0 9 h0 (by decide) (by decide)
  have H0' := hp_is (c := c') 0 9 ((fr 0 (by decide)).trans h0) (by decide) (by decide)
  exact ⟨c', e_X9_survey (b_X9_survey_0 (fun q => absurd q (nI_nlt (a := m) (b := 1) h1 (by omega))) (fun _ => b_X9_survey_5 (fun q => absurd q (nI_nlt (a := 6) (b := m) hm (by omega))) (fun _ => b_X9_survey_11 (fun q => absurd q (nI_pos (by omega))) (fun _ => b_X9_survey_15 (fun _ => b_X9_survey_31 H0 rfl (hp_is 31 7 S.1 (by decide) (by decide)) m1 H0' rfl (hp_is 31 7 S'.1 (by decide) (by decide)) m2 ⟨rfl, rfl⟩) (fun q => absurd (nI_lt (a := a) (b := 3) ha (by decide)) q))))), S', A', fr⟩
theorem t_surveyX {x y : Int32} (h : (x < 1 ∨ 6 < x) ∨ (y < 0 ∨ ¬ y < 3)) : MSX m_X9_survey (d + 6) [.ref 0, .int x, .int y] (hp c) 2 (hp c) :=
  e_X9_survey (b_X9_survey_0 (fun _ => b_X9_survey_20 ⟨rfl, rfl⟩) (fun q1 => b_X9_survey_5 (fun _ => b_X9_survey_20 ⟨rfl, rfl⟩) (fun q2 => b_X9_survey_11 (fun _ => b_X9_survey_20 ⟨rfl, rfl⟩) (fun q3 => b_X9_survey_15 (fun q4 => by rcases h with (h | h) | (h | h) <;> contradiction) (fun _ => b_X9_survey_20 ⟨rfl, rfl⟩)))))
end
