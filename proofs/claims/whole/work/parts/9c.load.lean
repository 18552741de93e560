section
variable {d m n ch kp : Nat} {c c' c'' : Nat → List Value} {f : Nat → Int32} {z : Nat → Int32} {p p0 : rd_p} {F : rd_f} {x y : Int32} {g w : Nat → Nat} {q : Nat → Nat} {a : Nat → Int32} {Hg Hw Sg Sw : Nat → Nat → Nat}
/-! load -/
theorem mzs {za : Nat → Int32} {i : Nat} (hs : ∀ z : Nat → Int32, (moL z).set i (.int x) = moL (up1 z i x)) : (hp (up1 c 70 (moL za))).set 70 (10, (moL za).set i (.int x)) = hp (up1 c 70 (moL (up1 za i x))) := by
  rw [hs, hp_set (by decide) (by decide), up1_up1]
def IF (c : Nat → List Value) (m : Nat) (f : Nat → Int32) : Prop := (∃ z, c 70 = moL z ∧ z 13 = nI m) ∧ c 77 = ar 400 (fun i => bU (f i)) ∧ m ≤ 400 ∧ ∀ i, isB (f i)
def LD (c c' : Nat → List Value) : Prop := (∀ i, fr70 i → c' i = c i) ∧ ∀ z, c 70 = moL z → ∃ z', c' 70 = moL z' ∧ z' 0 = nI 0 ∧ z' 13 = nI 0 ∧ z' 24 = z 24
theorem ld_pre (R : RF c n g w) (I : IF c m f) (hz : c 70 = moL z) : ∃ (Z : Nat → Int32) (c2 : Nat → List Value) (b : Bool), (∀ P, SW none m_X10_load (d + 7) 0 0 (if b = true then 56 else 42) [some (.ref 70), none, none] [] (hp (up1 c2 70 (moL (up1 Z 9 0)))) P → SW none m_X10_load (d + 7) 0 0 0 [some (.ref 70), none, none] [] (hp c) P) ∧ c2 70 = moL Z ∧ SC c2 ∧ (∀ i, i ≠ 70 → i ≠ 72 → i ≠ 78 → c2 i = c i) ∧ Z 0 = 0 ∧ Z 13 = 0 ∧ (∀ i, i = 6 ∨ i = 7 ∨ i = 8 ∨ i = 24 → Z i = z i) ∧ (b = true → er (rtR f m p F q).1 = 0 ∧ LF c2 (rtR f m p F q).2.1) ∧ (b = false → er (rtR f m p F q).1 ≠ 0 ∧ LE c2 (er (rtR f m p F q).1)) := by
  obtain ⟨⟨z0, hz0, h13⟩, h77, hm, hB⟩ := I
  have h13 : (moL z)[13]? = some (.int (nI m)) := by rw [← hz, hz0, ← h13]; rfl
  obtain ⟨z1, e1⟩ : ∃ z1, z1 = up1 z 0 0 := ⟨_, rfl⟩
  obtain ⟨z2, e2⟩ : ∃ z2, z2 = up1 z1 14 (nI m) := ⟨_, rfl⟩
  obtain ⟨z3, e3⟩ : ∃ z3, z3 = up1 z2 13 0 := ⟨_, rfl⟩
  obtain ⟨z4, e4⟩ : ∃ z4, z4 = up1 z3 15 0 := ⟨_, rfl⟩
  obtain ⟨z5, e5⟩ : ∃ z5, z5 = up1 z4 9 1 := ⟨_, rfl⟩
  have s1 : (hp c).set 70 (10, (moL z).set 0 (.int 0)) = hp (up1 c 70 (moL z1)) := by rw [moS0, hp_set (by decide) (by decide), e1]
  have s2 : (hp (up1 c 70 (moL z1))).set 70 (10, (moL z1).set 14 (.int (nI m))) = hp (up1 c 70 (moL z2)) := by rw [mzs (fun _ => rfl), e2]
  have s3 : (hp (up1 c 70 (moL z2))).set 70 (10, (moL z2).set 13 (.int 0)) = hp (up1 c 70 (moL z3)) := by rw [mzs (fun _ => rfl), e3]
  have s4 : (hp (up1 c 70 (moL z3))).set 70 (10, (moL z3).set 15 (.int 0)) = hp (up1 c 70 (moL z4)) := by rw [mzs (fun _ => rfl), e4]
  have s5 : (hp (up1 c 70 (moL z4))).set 70 (10, (moL z4).set 9 (.int 1)) = hp (up1 c 70 (moL z5)) := by rw [mzs (fun _ => rfl), e5]
  have M : ∀ z' : Nat → Int32, (hp (up1 c 70 (moL z')))[70]? = some (10, moL z') := fun z' => mo_H (up1_same _ _ _)
  have B : BF (up1 c 70 (moL z5)) z5 m f := ⟨(up1_ne _ _ (by decide)).trans h77, by rw [e5, e4, e3, e2]; rfl, hm, hB⟩
  obtain ⟨c2, b, m6, r6⟩ := r_readsAll (d := d) (p := p) (F := F) (q := q) B (up1_same _ _ _) (by rw [e5, e4]; rfl) (by rw [e5]; rfl) (R.S.off (by decide))
  obtain ⟨k6, S6, t6, b6⟩ := r6
  obtain ⟨Z, hZ, hZ'⟩ := k6.2 _ (up1_same _ _ _)
  refine ⟨Z, c2, b, fun P K => ?_, hZ, S6, fun i h1 h2 h3 => (k6.1 i h1 h2 h3).trans (up1_ne _ _ h1), (hZ' 0 (by decide)).trans (by rw [e5, e4, e3, e2, e1]; rfl), (hZ' 13 (by decide)).trans (by rw [e5, e4, e3]; rfl), fun i hi => ?_, t6, b6⟩
  · refine b_X10_load_0 (x6 := nI m) (mo_H hz) (by show 0 < 27; decide) (by rw [s1]; exact M z1) (by rw [e1]; exact h13) (by rw [s1]; exact M z1) (by show 14 < 27; decide) (by rw [s1, s2]; exact M z2) (by show 13 < 27; decide) (by rw [s1, s2, s3]; exact M z3) (by show 15 < 27; decide) (by rw [s1, s2, s3, s4]; exact M z4) (by show 9 < 27; decide) (by decide) (by rw [s1, s2, s3, s4, s5]; exact M z5) (by rw [s1, s2, s3, s4, s5]; exact m6) (mo_H hZ) (by show 9 < 27; decide) (by decide) (fun q => ?_) (fun q => ?_)
    · have hb := tb_of q
      rw [show (moL Z).set 9 (.int 0) = moL (up1 Z 9 0) from rfl, hp_set (by decide) (by decide)]
      rw [hb] at K
      exact K
    · have hb := h01.mp q
      rw [show (moL Z).set 9 (.int 0) = moL (up1 Z 9 0) from rfl, hp_set (by decide) (by decide)]
      rw [hb] at K
      exact K
  · rcases hi with h | h | h | h <;> subst h
    · exact (hZ' 6 (by decide)).trans (by rw [e5, e4, e3, e2, e1]; rfl)
    · exact (hZ' 7 (by decide)).trans (by rw [e5, e4, e3, e2, e1]; rfl)
    · exact (hZ' 8 (by decide)).trans (by rw [e5, e4, e3, e2, e1]; rfl)
    · exact (hZ' 24 (by decide)).trans (by rw [e5, e4, e3, e2, e1]; rfl)
theorem q_load0 (R : RF c n g w) (X : HF c ch kp Hg Hw Sg Sw a) (I : IF c m f) (he : er (rtR f m p F q).1 ≠ 0) : ∃ c', MSE m_X10_load (d + 7) [.ref 70] (hp c) (some (.int (-(er (rtR f m p F q).1)))) (hp c') ∧ RF c' n g w ∧ HF c' ch kp Hg Hw Sg Sw a ∧ LD c c' := by
  obtain ⟨z, hz, h9, h6⟩ := R.Z
  obtain ⟨Z, c2, b, st, hZ, S2, o2, Z0, Z13, Zi, t2, b2⟩ := ld_pre (d := d) (p := p) (F := F) (q := q) R I hz
  cases hb : b with
  | true => exact absurd (t2 hb).1 he
  | false =>
    rw [hb] at st
    obtain ⟨-, z3, hz3, e3⟩ := b2 hb
    have M : (hp (up1 c2 70 (moL (up1 Z 9 0))))[70]? = some (10, moL (up1 Z 9 0)) := mo_H (up1_same _ _ _)
    have eZ : moL Z = moL z3 := hZ.symm.trans hz3
    have f20 : (moL (up1 Z 9 0))[20]? = some (.int (z3 20)) := by
      rw [show (moL (up1 Z 9 0))[20]? = (moL Z)[20]? from rfl, eZ]; rfl
    have f19 : (moL (up1 Z 9 0))[19]? = some (.int (z3 19)) := by
      rw [show (moL (up1 Z 9 0))[19]? = (moL Z)[19]? from rfl, eZ]; rfl
    refine ⟨up1 c2 70 (moL (up1 Z 9 0)), e_X10_load (st _ (b_X10_load_42 M f20 M f19 ⟨by rw [e3], rfl⟩)), ?_, ?_, ?_, ?_⟩
    · exact ⟨R.F, R.one, R.le, R.w99, S2.off (by decide), by rw [up1_ne _ _ (by decide), o2 71 (by decide) (by decide) (by decide)]; exact R.row, _, up1_same _ _ _, rfl, (Zi 6 (by decide)).trans h6⟩
    · exact X.same (fun i hi => by rw [up1_ne _ _ (by omega), o2 i (by omega) (by omega) (by omega)]) hz (up1_same _ _ _) (Zi 7 (by decide)) (Zi 8 (by decide))
    · intro i hi
      rw [up1_ne _ _ (fr_ne hi (by decide)), o2 i (fr_ne hi (by decide)) (fr_ne hi (by decide)) (fr_ne hi (by decide))]
    · intro z' hz'
      refine ⟨_, up1_same _ _ _, Z0, Z13, (Zi 24 (by decide)).trans ?_⟩
      have e : moL z = moL z' := hz.symm.trans hz'
      have := congrArg (fun l : List Value => l[24]?) e
      simpa [moL] using this
theorem q_load (R : RF c n g w) (X : HF c ch kp Hg Hw Sg Sw a) (I : IF c m f) (he : er (rtR f m p F q).1 = 0) : ∃ c', MSE m_X10_load (d + 7) [.ref 70] (hp c) (some (.int (nI (ed (rtR f m p F q).2.1.2.1 (rtR f m p F q).2.1.1)))) (hp c') ∧ RF c' (rtR f m p F q).2.1.1 (rtR f m p F q).2.1.2.1 (wq (rtR f m p F q).2.1.1 (rtR f m p F q).2.1.2.2) ∧ HF c' 0 0 Hg Hw Sg Sw (fun _ => 0) ∧ LD c c' ∧ ∀ i, (rtR f m p F q).2.1.2.2 i ≤ 99 := by
  obtain ⟨z, hz, h9, h6⟩ := R.Z
  obtain ⟨Z, c2, b, st, hZ, S2, o2, Z0, Z13, Zi, t2, b2⟩ := ld_pre (d := d) (p := p) (F := F) (q := q) R I hz
  cases hb : b with
  | false => exact absurd he (b2 hb).1
  | true =>
    rw [hb] at st
    obtain ⟨-, G⟩ := t2 hb
    obtain ⟨F', eF⟩ : ∃ F', F' = (rtR f m p F q).2.1 := ⟨_, rfl⟩
    rw [← eF] at G ⊢
    obtain ⟨⟨z3, hz3, z39, z310⟩, row, h1, hn, FF, h99⟩ := G
    have eZ : moL Z = moL z3 := hZ.symm.trans hz3
    obtain ⟨W, hW⟩ : ∃ W, W = wq F'.1 F'.2.2 := ⟨_, rfl⟩
    have W99 : ∀ i, W i ≤ 99 := fun i => by
      rw [hW]; unfold wq
      split
      · exact h99 i
      · exact Nat.zero_le _
    rw [← hW] at row ⊢
    obtain ⟨Z4, hZ4⟩ : ∃ Z4, Z4 = up1 (up1 Z 9 0) 6 (nI F'.1) := ⟨_, rfl⟩
    obtain ⟨c4, hc4⟩ : ∃ c4, c4 = up1 c2 70 (moL Z4) := ⟨_, rfl⟩
    have e4 : (hp (up1 c2 70 (moL (up1 Z 9 0)))).set 70 (10, (moL (up1 Z 9 0)).set 6 (.int (nI F'.1))) = hp c4 := by rw [mzs (fun _ => rfl), hc4, hZ4]
    have hz4 : c4 70 = moL Z4 := by rw [hc4]; exact up1_same _ _ _
    have o4 : ∀ i, i ≠ 70 → c4 i = c2 i := fun i hi => by rw [hc4]; exact up1_ne _ _ hi
    have f10 : (moL (up1 Z 9 0))[10]? = some (.int (nI F'.1)) := by
      rw [show (moL (up1 Z 9 0))[10]? = (moL Z)[10]? from rfl, eZ, ← z310]; rfl
    have h71 : c4 71 = ar 20 (fun i => nI (sv g w i)) := by rw [o4 71 (by decide), o2 71 (by decide) (by decide) (by decide)]; exact R.row
    have h72 : c4 72 = ar 20 (fun i => nI (sv F'.2.1 W i)) := (o4 72 (by decide)).trans row
    have M := fun k => mo_H (c := up1 c4 71 (ar 20 (fun i => nI (cpO (sv F'.2.1 W) (sv g w) 0 k i)))) ((up1_ne _ _ (by decide)).trans hz4)
    have H71 := fun k => hp_is (c := up1 c4 71 (ar 20 (fun i => nI (cpO (sv F'.2.1 W) (sv g w) 0 k i)))) 71 100 (up1_same _ _ _) (by decide) (by decide)
    have H72 := fun k => hp_is (c := up1 c4 71 (ar 20 (fun i => nI (cpO (sv F'.2.1 W) (sv g w) 0 k i)))) 72 100 ((up1_ne _ _ (by decide)).trans h72) (by decide) (by decide)
    obtain ⟨c5, hc5⟩ : ∃ c5, c5 = cN c4 F'.2.1 W := ⟨_, rfl⟩
    have hz5 : c5 70 = moL Z4 := by rw [hc5]; exact (up1_ne _ _ (by decide)).trans hz4
    have h75 : c5 75 = ar 10 a := by
      rw [hc5]
      show up1 c4 71 _ 75 = _
      rw [up1_ne _ _ (by decide), o4 75 (by decide), o2 75 (by decide) (by decide) (by decide)]; exact X.2.2.2.2.2
    have M5 := fun k => mo_H (c := up1 c5 75 (ar 10 (fun i => if i < k then 0 else a i))) ((up1_ne _ _ (by decide)).trans hz5)
    have H75 := fun k => hp_is (c := up1 c5 75 (ar 10 (fun i => if i < k then 0 else a i))) 75 100 (up1_same _ _ _) (by decide) (by decide)
    obtain ⟨c6, hc6⟩ : ∃ c6, c6 = up1 c5 75 (ar 10 (fun _ => 0)) := ⟨_, rfl⟩
    have hz6 : c6 70 = moL Z4 := by rw [hc6]; exact (up1_ne _ _ (by decide)).trans hz5
    obtain ⟨c7, hc7⟩ : ∃ c7, c7 = up1 c6 70 (moL (up1 Z4 7 0)) := ⟨_, rfl⟩
    have e7 : (hp c6).set 70 (10, (moL Z4).set 7 (.int 0)) = hp c7 := by rw [moS7, hp_set (by decide) (by decide), hc7]
    obtain ⟨c8, hc8⟩ : ∃ c8, c8 = up1 c7 70 (moL (up1 (up1 Z4 7 0) 8 0)) := ⟨_, rfl⟩
    have hz7 : c7 70 = moL (up1 Z4 7 0) := by rw [hc7]; exact up1_same _ _ _
    have e8 : (hp c7).set 70 (10, (moL (up1 Z4 7 0)).set 8 (.int 0)) = hp c8 := by rw [moS8, hp_set (by decide) (by decide), hc8]
    have hz8 : c8 70 = moL (up1 (up1 Z4 7 0) 8 0) := by rw [hc8]; exact up1_same _ _ _
    have o8 : ∀ i, i ≠ 70 → i ≠ 71 → i ≠ 75 → c8 i = c2 i := fun i a1 a2 a3 => by
      rw [hc8, up1_ne _ _ a1, hc7, up1_ne _ _ a1, hc6, up1_ne _ _ a3, hc5]
      exact (up1_ne _ _ a2).trans (o4 i a1)
    have r8 : c8 71 = ar 20 (fun i => nI (sv F'.2.1 W i)) := by
      rw [hc8, up1_ne _ _ (by decide), hc7, up1_ne _ _ (by decide), hc6, up1_ne _ _ (by decide), hc5]
      exact up1_same _ _ _
    have S8 : SC c8 := S2.same (fun i hi => o8 i (by omega) (by omega) (by omega))
    have R8 : RF c8 F'.1 F'.2.1 W := ⟨FF, h1, hn, W99, S8, r8, _, hz8, by rw [hZ4]; rfl, by rw [hZ4]; rfl⟩
    have f8 : c8 75 = ar 10 (fun _ => 0) := by
      rw [hc8, up1_ne _ _ (by decide), hc7, up1_ne _ _ (by decide), hc6]
      exact up1_same _ _ _
    obtain ⟨x1, x2, x3, ⟨fk, hfk, -⟩, ⟨fs, hfs, -⟩, x6⟩ := X
    have X8 : HF c8 0 0 Hg Hw Sg Sw (fun _ => 0) := ⟨by decide, by decide, ⟨_, hz8, rfl, rfl⟩, ⟨fk, by rw [o8 73 (by decide) (by decide) (by decide), o2 73 (by decide) (by decide) (by decide)]; exact hfk, fun j i hj => absurd hj (Nat.not_lt_zero j)⟩, ⟨fs, by rw [o8 74 (by decide) (by decide) (by decide), o2 74 (by decide) (by decide) (by decide)]; exact hfs, fun s i _ hb => by rw [Nat.zero_testBit] at hb; cases hb⟩, f8⟩
    refine ⟨c8, e_X10_load (st _ (b_X10_load_56 (mo_H (up1_same _ _ _)) f10 (mo_H (up1_same _ _ _)) (by show 6 < 27; decide) ?_)), R8, X8, ⟨fun i hi => ?_, fun z' hz' => ?_⟩, h99⟩
    · rw [e4]
      have key := up_all (n := 20) (T := fun k => a_X10_load_66 (d + 7) 0 0 70 (nI k) (hp (up1 c4 71 (ar 20 (fun i => nI (cpO (sv F'.2.1 W) (sv g w) 0 k i))))) (rI (nI (ed F'.2.1 F'.1)) (hp c8))) (fun k hk ih => ?_) ?_
      · have e0 : up1 c4 71 (ar 20 (fun i => nI (cpO (sv F'.2.1 W) (sv g w) 0 0 i))) = c4 := by rw [cpO_0]; exact up1_id h71
        have key : a_X10_load_66 (d + 7) 0 0 70 (nI 0) (hp (up1 c4 71 (ar 20 (fun i => nI (cpO (sv F'.2.1 W) (sv g w) 0 0 i))))) (rI (nI (ed F'.2.1 F'.1)) (hp c8)) := key
        rw [e0] at key; exact key
      · refine b_X10_load_66 (fun q => absurd q (nI_ge (b := 20) hk (by decide))) (fun _ => b_X10_load_72 (M k) rfl (M k) rfl (H72 k) (nI_pos (by omega)) (at20 hk) (H71 k) (nI_pos (by omega)) (ln20 hk) ?_)
        have es := cpO_s (f := sv F'.2.1 W) (o := sv g w) (b := 0) (k := k)
        rw [Nat.zero_add] at es
        rw [cl_nI (by omega), ar_upN, hp_set (by decide) (by decide), up1_up1, es, nI_1]
        exact ih
      · rw [cN_20, ← hc5]
        refine b_X10_load_66 (fun _ => b_X10_load_90 ?_) (fun q => absurd (nI_le (a := 20) (b := 20) (Nat.le_refl _) (by decide)) q)
        have key := up_all (n := 10) (T := fun k => a_X10_load_92 (d + 7) 0 0 70 (nI k) (hp (up1 c5 75 (ar 10 (fun i => if i < k then 0 else a i)))) (rI (nI (ed F'.2.1 F'.1)) (hp c8))) (fun k hk ih => ?_) ?_
        · have e0 : up1 c5 75 (ar 10 (fun i => if i < 0 then 0 else a i)) = c5 := by
            have : (fun i => if i < 0 then (0 : Int32) else a i) = a := funext fun i => if_neg (Nat.not_lt_zero i)
            rw [this]; exact up1_id h75
          have key : a_X10_load_92 (d + 7) 0 0 70 (nI 0) (hp (up1 c5 75 (ar 10 (fun i => if i < 0 then 0 else a i)))) (rI (nI (ed F'.2.1 F'.1)) (hp c8)) := key
          rw [e0] at key; exact key
        · refine b_X10_load_92 (fun q => absurd q (nI_ge (b := 10) hk (by decide))) (fun _ => b_X10_load_98 (M5 k) rfl (H75 k) (nI_pos (by omega)) (by rw [cl_nI (by omega), ar_len]; omega) ?_)
          have ew : up1 (fun i => if i < k then (0 : Int32) else a i) k 0 = fun i => if i < k + 1 then 0 else a i := funext fun i => by
            by_cases e : i = k
            · subst e; rw [up1_same, if_pos (show i < i + 1 by omega)]
            · rw [up1_ne _ _ e]
              by_cases h : i < k
              · rw [if_pos h, if_pos (show i < k + 1 by omega)]
              · rw [if_neg h, if_neg (show ¬ i < k + 1 by omega)]
          rw [cl_nI (by omega), ar_set, hp_set (by decide) (by decide), up1_up1, ew, nI_1]
          exact ih
        · have e : up1 c5 75 (ar 10 (fun i => if i < 10 then 0 else a i)) = c6 := by
            rw [hc6, ar_ext (n := 10) (f := fun i => if i < 10 then 0 else a i) (g := fun _ => 0) (fun i hi => if_pos hi)]
          rw [e]
          exact b_X10_load_92 (fun _ => b_X10_load_111 (mo_H hz6) (by show 7 < 27; decide) (by rw [e7]; exact mo_H hz7) (by show 8 < 27; decide) (by rw [e7, e8]; exact mo_H hz8) (by rw [e7, e8]; exact r_edges (d := d + 4) R8) ⟨rfl, rfl⟩) (fun q => absurd (nI_le (a := 10) (b := 10) (Nat.le_refl _) (by decide)) q)
    · rw [o8 i (fr_ne hi (by decide)) (fr_ne hi (by decide)) (fr_ne hi (by decide)), o2 i (fr_ne hi (by decide)) (fr_ne hi (by decide)) (fr_ne hi (by decide))]
    · refine ⟨_, hz8, by rw [hZ4]; exact Z0, by rw [hZ4]; exact Z13, by
        rw [hZ4]
        refine (Zi 24 (by decide)).trans ?_
        have e : moL z = moL z' := hz.symm.trans hz'
        have := congrArg (fun l : List Value => l[24]?) e
        simpa [moL] using this⟩
end
