section
variable {d m n t : Nat} {c c' : Nat → List Value} {f : Nat → Int32} {z : Nat → Int32} {g w : Nat → Nat} {x y : Int32} {l : List Int32}
theorem cV_cK {K : Nat → Nat} : cK (cV c z f l) K = cV (cK c K) z f l := by
  unfold cK cV
  rw [up1_cm (i := 70) (j := 76) (by decide), up1_cm (i := 79) (j := 76) (by decide)]
theorem RF.cV (R : RF c n g w) (hz : c 70 = moL z) : RF (cV c z f l) n g w :=
  R.same (R.S.same (fun i hi => (up1_ne _ _ (by omega)).trans (up1_ne _ _ (by omega)))) ((up1_ne _ _ (by decide)).trans (up1_ne _ _ (by decide))) hz (up1_same _ _ _) rfl rfl
theorem HF.cV {ch kp : Nat} {Hg Hw Sg Sw : Nat → Nat → Nat} {a : Nat → Int32} (X : HF c ch kp Hg Hw Sg Sw a) (hz : c 70 = moL z) : HF (cV c z f l) ch kp Hg Hw Sg Sw a :=
  X.same (fun i hi => (up1_ne _ _ (by omega)).trans (up1_ne _ _ (by omega))) hz (up1_same _ _ _) rfl rfl
theorem IF.cV {m : Nat} {f1 : Nat → Int32} (I : IF c m f1) (hz : c 70 = moL z) : IF (cV c z f l) m f1 :=
  ⟨⟨_, up1_same _ _ _, (up1_ne _ _ (by decide)).trans (I.zz hz)⟩, ((up1_ne _ _ (by decide)).trans (up1_ne _ _ (by decide))).trans I.2.1, I.2.2⟩
theorem q_writeWordX (R : RF c n g w) (hv : isV (cnU (isR g n) n) x = false) : ∃ c', MSE m_X10_writeWord (d + 16) [.ref 70, .int x] (hp c) (some (.int 0)) (hp c') ∧ QF c c' 1 := by
  obtain ⟨z, hz, h9, h6⟩ := R.Z
  exact ⟨_, e_X10_writeWord (b_X10_writeWord_0 (mo_H hz) (r_isComponent (d := d + 11) R) (fun q => absurd (nv0 hv) q) (fun _ => b_X10_writeWord_9 (b_X10_writeWord_14 (mo_H hz) (r_fails1 hz) (fun q => absurd q (by decide)) (fun _ => b_X10_writeWord_21 ⟨rfl, rfl⟩)))), QF.th R.S hz⟩
theorem q_writeWord (R : RF c n g w) (hf : c 79 = ar 400 f) (hv : isV (cnU (isR g n) n) x = true) {lo : Nat} (hl : low (cs g n x) = some lo) (hln : lo < n) (hcs : comp g n lo = cs g n x) : ∃ c' z1, MSE m_X10_writeWord (d + 16) [.ref 70, .int x] (hp c) (some (.int (nI (2 * pc (cs g n x))))) (hp (cV c' z1 f ((List.range (2 * pc (cs g n x))).map (sgn (al20 (Sw g w n (cs g n x))))))) ∧ QF c c' 0 ∧ c' 70 = moL z1 := by
  obtain ⟨z, hz, h9, h6⟩ := R.Z
  have hn := R.le
  have Q := QF.th (t := 0) R.S hz
  obtain ⟨z1, ez1⟩ : ∃ z1, z1 = up1 z 0 (nI 0) := ⟨_, rfl⟩
  obtain ⟨c1, ec1⟩ : ∃ c1, c1 = cT c z (nI 0) := ⟨_, rfl⟩
  have hz1 : c1 70 = moL z1 := by rw [ec1, ez1]; exact up1_same _ _ _
  have h79 : c1 79 = ar 400 f := by rw [ec1]; exact (cT_ne (by decide)).trans hf
  have mf : MSE m_X10_fails (d + 15) [.ref 70, .int 0, .int 0] (hp c) (some (.int 0)) (hp c1) := by rw [ec1]; exact r_fails0 hz
  rw [← ec1] at Q
  have R1 := R.q Q
  have s1 : (hp c1).set 70 (10, (moL z1).set 24 (.int 0)) = hp (cV c1 z1 f []) := by
    unfold cV
    rw [lay_nil, show up1 c1 79 (ar 400 f) = c1 from up1_id h79]
    exact hp_set (by decide) (by decide)
  have R2 : RF (cV c1 z1 f []) n g w := R1.cV hz1
  obtain ⟨K, hK⟩ := R2.kid
  have hlt := cs_lt (x := x) R.g10 hn
  obtain ⟨S, eS⟩ : ∃ S, S = cs g n x := ⟨_, rfl⟩
  obtain ⟨K', m3⟩ := r_wordOfSet (d := d) R2.V R2.K R2.Y R2.O hlt (K := K)
  rw [hK, cV_cK] at m3
  have hS := Sw_all (w := w) R.F hn hln
  rw [hcs] at hS
  obtain ⟨W, eW⟩ : ∃ W, W = Sw g w n (cs g n x) := ⟨_, rfl⟩
  have hWl : W < 1048576 := by rw [eW]; exact Sw_lt R2.O
  rw [← eW] at m3 hS ⊢
  rw [← eS] at hS hlt ⊢
  have hpc := pc_le S
  have mo := r_ones20 (d := d + 14) (h := hp (cV (cK c1 K') z1 f [])) hWl
  rw [hS.2.2] at mo
  obtain ⟨N, eN⟩ : ∃ N, N = 2 * pc S := ⟨_, rfl⟩
  have e2 : (2 : Int32) * nI (pc S) - 1 = nI N - 1 := by rw [show (2 : Int32) = nI 2 from rfl, pk_mul, eN]
  have hQ3 : QF c (cK c1 K') 0 := Q.k
  have hz3 : cK c1 K' 70 = moL z1 := (up1_ne _ _ (by decide)).trans hz1
  have m2 := r_cs (d := d + 12) (x := x) R2
  rw [← eS] at m2 m3
  rw [← eN]
  have hN20 : N ≤ 20 := by omega
  have bit : ∀ j, j < N → sgn (al20 W) j = if W.testBit (N - 1 - j) = true then 41 else 40 := fun j hj => by
    unfold sgn al20
    rw [hS.2.2, ← eN, ← Nat.shiftLeft_eq, Nat.testBit_shiftLeft, decide_eq_true (show 20 - N ≤ 19 - j by omega), Bool.true_and, show 19 - j - (20 - N) = N - 1 - j by omega]
  refine ⟨cK c1 K', z1, e_X10_writeWord (b_X10_writeWord_0 (mo_H hz) (r_isComponent (d := d + 11) R) (fun _ => b_X10_writeWord_13 (b_X10_writeWord_14 (mo_H hz) mf (fun _ => b_X10_writeWord_23 (mo_H hz1) (by show 24 < 27; decide) (by rw [s1]; exact cV_M) (by rw [s1]; exact m2) cV_M m3 mo ?_) (fun q => absurd rfl q))) (fun q => absurd q (nv1 hv))), hQ3, hz3⟩
  rw [e2]
  have key := up_all (n := N) (T := fun j => a_X10_writeWord_47 (d + 16) 0 0 70 (nI W) (nI (N - j) - 1) (hp (cV (cK c1 K') z1 f ((List.range j).map (sgn (al20 W))))) (rI (nI N) (hp (cV (cK c1 K') z1 f ((List.range N).map (sgn (al20 W))))))) (fun j hj ih => ?_) ?_
  · exact key
  · have e4 : nI (N - j) - 1 = nI (N - 1 - j) := by rw [show N - j = (N - 1 - j) + 1 by omega, nI_pred]
    have e5 : nI (N - 1 - j) + (-1) = nI (N - (j + 1)) - 1 := by
      rw [show N - (j + 1) = N - 1 - j by omega]
      exact (Int32.sub_eq_add_neg _ _).symm
    have ms := r_says (d := d + 15) (c := cK c1 K') (z := z1) (f := f) (l := (List.range j).map (sgn (al20 W))) (y := sgn (al20 W) j) (by rw [List.length_map, List.length_range]; omega)
    have el : (List.range j).map (sgn (al20 W)) ++ [sgn (al20 W) j] = (List.range (j + 1)).map (sgn (al20 W)) := by
      rw [List.range_succ, List.map_append]; rfl
    rw [el] at ms
    rw [e4]
    refine b_X10_writeWord_47 (fun q => absurd q (nI_pos (by omega))) (fun _ => b_X10_writeWord_51 (r_has (by omega) (by omega)) (fun q => b_X10_writeWord_65 ?_) (fun q => b_X10_writeWord_60 ?_))
    · have hb := h01.mp q
      rw [bit j hj, if_neg (by rw [hb]; decide)] at ms
      refine b_X10_writeWord_67 cV_M ms ?_
      rw [e5]; exact ih
    · have hb := tb_of q
      rw [bit j hj, if_pos hb] at ms
      refine b_X10_writeWord_67 cV_M ms ?_
      rw [e5]; exact ih
  · rw [Nat.sub_self]
    refine b_X10_writeWord_47 (fun _ => b_X10_writeWord_76 (x2 := nI N) cV_M ?_ ⟨rfl, rfl⟩) (fun q => absurd (show nI 0 - 1 < 0 by decide) q)
    rw [show (moL (up1 z1 24 (nI ((List.range N).map (sgn (al20 W))).length)))[24]? = some (.int (nI ((List.range N).map (sgn (al20 W))).length)) from rfl, List.length_map, List.length_range]
end
