section
theorem m255 (i : Nat) (hi : i < 32) : ((255 : Int32).toBitVec).getLsbD i = decide (i < 8) := by
  have : ∀ i, i < 32 → ((255 : Int32).toBitVec).getLsbD i = decide (i < 8) := by decide
  exact this i hi
theorem bu_by (s : Int32) : bU s.toInt8.toInt32 = s &&& 255 := by
  unfold bU
  apply Int32.toBitVec_inj.1
  rw [Int32.toBitVec_and, Int32.toBitVec_and]
  apply BitVec.eq_of_getLsbD_eq
  intro i hi
  rw [BitVec.getLsbD_and, BitVec.getLsbD_and, m255 i hi]
  by_cases h : i < 8
  · have e : (s.toInt8.toInt32).toBitVec = BitVec.signExtend 32 (BitVec.signExtend 8 s.toBitVec) := by rw [Int8.toBitVec_toInt32, Int32.toBitVec_toInt8]
    rw [e, BitVec.getLsbD_signExtend, BitVec.getLsbD_signExtend]
    simp [h, hi]
  · simp [h]
theorem by_k (x : Int32) {k : Nat} (hk : k = 24 ∨ k = 16 ∨ k = 8) : ((x.toUInt32 >>> ((nI k).toUInt32 &&& Int32.toUInt32 31)).toInt32) &&& (255 : Int32) = (x >>> ((nI k) &&& (31 : Int32))) &&& (255 : Int32) := by
  apply Int32.toBitVec_inj.1
  rw [Int32.toBitVec_and, Int32.toBitVec_and]
  have e1 : ((x.toUInt32 >>> ((nI k).toUInt32 &&& Int32.toUInt32 31)).toInt32).toBitVec = x.toBitVec >>> k := by rcases hk with h | h | h <;> subst h <;> rfl
  have e2 : (x >>> ((nI k) &&& (31 : Int32))).toBitVec = x.toBitVec.sshiftRight k := by rcases hk with h | h | h <;> subst h <;> rfl
  rw [e1, e2]
  apply BitVec.eq_of_getLsbD_eq
  intro i hi
  rw [BitVec.getLsbD_and, BitVec.getLsbD_and, m255 i hi]
  by_cases h : i < 8
  · simp [BitVec.getLsbD_sshiftRight, h, show k + i < 32 by omega]
    omega
  · simp [h]
theorem by_0 (x : Int32) : ((x.toUInt32 >>> ((nI 0).toUInt32 &&& Int32.toUInt32 31)).toInt32) &&& (255 : Int32) = x &&& (255 : Int32) := by
  have e1 : ((x.toUInt32 >>> ((nI 0).toUInt32 &&& Int32.toUInt32 31)).toInt32) = x := by
    apply Int32.toBitVec_inj.1
    have : ((x.toUInt32 >>> ((nI 0).toUInt32 &&& Int32.toUInt32 31)).toInt32).toBitVec = x.toBitVec >>> (0 : Nat) := rfl
    rw [this]; simp
  rw [e1]
theorem isB_8 (y : Int8) : isB y.toInt32 := by
  have k : ∀ k, k < 256 → (Int8.ofNat k).toInt32 = if k < 128 then nI k else nI k - 256 := by decide +kernel
  refine ⟨y.toBitVec.toNat, y.toBitVec.isLt, ?_⟩
  have e : y = Int8.ofNat y.toBitVec.toNat := by
    apply Int8.toBitVec_inj.1
    show y.toBitVec = BitVec.ofNat 8 y.toBitVec.toNat
    rw [BitVec.ofNat_toNat]; simp
  have := k y.toBitVec.toNat y.toBitVec.isLt
  rw [← e] at this
  exact this
variable {d m n t : Nat} {c c' : Nat → List Value} {f : Nat → Int32} {z : Nat → Int32} {g w : Nat → Nat} {x y : Int32}
/-! the buffer -/
/-- the reference's buffer with more behind it -/
def cB (c : Nat → List Value) (z : Nat → Int32) (m : Nat) (f : Nat → Int32) (l : List Int32) : Nat → List Value := up1 (up1 c 77 (ar 400 (fun i => bU (lay f m l i)))) 70 (moL (up1 z 13 (nI (m + l.length))))
theorem cB_M {l : List Int32} : (hp (cB c z m f l))[70]? = some (10, moL (up1 z 13 (nI (m + l.length)))) := mo_H (up1_same _ _ _)
theorem cB_77 {l : List Int32} : (hp (cB c z m f l))[77]? = some (100, ar 400 (fun i => bU (lay f m l i))) := hp_is 77 100 ((up1_ne _ _ (by decide)).trans (up1_same _ _ _)) (by decide) (by decide)
theorem lay_s {l : List Int32} : up1 (lay f m l) (m + l.length) y = lay f m (l ++ [y]) := by
  rw [← lay_lay, ← lay_cons, lay_nil]
theorem r_add1 {l : List Int32} (hm : m + l.length < 400) {w k : Int32} (hk : ¬ k < 0) (hy : ((w.toUInt32 >>> (k.toUInt32 &&& Int32.toUInt32 31)).toInt32) &&& 255 = bU y) {P : ab_O → ab_H → Prop} (K : SW none m_X10_adds d 0 0 3 [some (.ref 70), some (.int w), some (.int (k + (-8)))] [] (hp (cB c z m f (l ++ [y]))) P) : SW none m_X10_adds d 0 0 3 [some (.ref 70), some (.int w), some (.int k)] [] (hp (cB c z m f l)) P := by
  have e1 : (hp (cB c z m f l)).set 77 (100, (ar 400 (fun i => bU (lay f m l i))).set (nI (m + l.length)).toNatClampNeg (.int (bU y))) = hp (up1 (up1 c 77 (ar 400 (fun i => bU (lay f m (l ++ [y]) i)))) 70 (moL (up1 z 13 (nI (m + l.length))))) := by
    rw [cl_nI (by omega), ar_set, hp_set (by decide) (by decide)]
    have e2 : ar 400 (up1 (fun i => bU (lay f m l i)) (m + l.length) (bU y)) = ar 400 (fun i => bU (lay f m (l ++ [y]) i)) := ar_ext fun i _ => by
      rw [← lay_s]
      by_cases e : i = m + l.length
      · rw [e, up1_same, up1_same]
      · rw [up1_ne _ _ e, up1_ne _ _ e]
    rw [e2]
    unfold cB
    rw [up1_cm (i := 70) (j := 77) (by decide), up1_up1]
  refine b_X10_adds_3 (fun q => absurd q hk) (fun _ => b_X10_adds_7 (x4 := nI (m + l.length)) (x13 := nI (m + l.length)) cB_M rfl cB_M rfl cB_77 (nI_pos (by omega)) (by rw [cl_nI (by omega), ar_len]; omega) (by rw [hy, e1]; exact mo_H (up1_same _ _ _)) rfl (by rw [hy, e1]; exact mo_H (up1_same _ _ _)) (by show 13 < 27; decide) ?_)
  rw [hy, e1, nI_1, show (moL (up1 z 13 (nI (m + l.length)))).set 13 (.int (nI (m + l.length + 1))) = moL (up1 z 13 (nI (m + l.length + 1))) from rfl, hp_set (by decide) (by decide), up1_up1]
  unfold cB at K
  rw [List.length_append] at K
  exact K
theorem r_adds {l : List Int32} (hm : m + l.length + 4 ≤ 400) : MSE m_X10_adds d [.ref 70, .int x] (hp (cB c z m f l)) none (hp (cB c z m f (l ++ four x))) := by
  have hl : ∀ y : Int32, ∀ l : List Int32, (l ++ [y]).length = l.length + 1 := fun y l => by rw [List.length_append]; rfl
  refine e_X10_adds (b_X10_adds_0 ?_)
  refine r_add1 (y := (x >>> (24 &&& 31)).toInt8.toInt32) (by omega) (by decide) (by rw [bu_by]; exact by_k x (k := 24) (by decide)) ?_
  refine r_add1 (y := (x >>> (16 &&& 31)).toInt8.toInt32) (by rw [hl]; omega) (by decide) (by rw [bu_by]; exact by_k x (k := 16) (by decide)) ?_
  refine r_add1 (y := (x >>> (8 &&& 31)).toInt8.toInt32) (by rw [hl, hl]; omega) (by decide) (by rw [bu_by]; exact by_k x (k := 8) (by decide)) ?_
  refine r_add1 (y := x.toInt8.toInt32) (by rw [hl, hl, hl]; omega) (by decide) (by rw [bu_by]; exact by_0 x) ?_
  refine b_X10_adds_3 (fun _ => b_X10_adds_39 ⟨rfl, ?_⟩) (fun q => absurd (by decide) q)
  rw [List.append_assoc, List.append_assoc, List.append_assoc]; rfl
theorem tw_len {x1 x2 x3 x4 x5 : Int32} : (tw x1 x2 x3 x4 x5).length = 20 := rfl
theorem IF.zz (I : IF c m f) (hz : c 70 = moL z) : z 13 = nI m := by
  obtain ⟨⟨z0, hz0, h13⟩, -⟩ := I
  have e : moL z = moL z0 := hz.symm.trans hz0
  have := congrArg (fun l : List Value => l[13]?) e
  have e2 : z 13 = z0 13 := by simpa [moL] using this
  rw [e2]; exact h13
theorem IF.q (I : IF c m f) (Q : QF c c' t) : IF c' m f := by
  obtain ⟨⟨z, hz, h13⟩, h77, r⟩ := I
  obtain ⟨q1, -, x, q3⟩ := Q
  rw [hz, moS10, moS0] at q3
  exact ⟨⟨_, q3, h13⟩, by rw [q1 77 (by decide) (by decide) (by decide) (by decide) (by decide) (by decide)]; exact h77, r⟩
theorem lay_isB {l : List Int32} (hf : ∀ i, isB (f i)) (hl : ∀ y ∈ l, isB y) : ∀ i, isB (lay f m l i) := fun i => by
  unfold lay
  split
  · rename_i h
    rw [List.getD_eq_getElem?_getD]
    have : i - m < l.length := by omega
    rw [List.getElem?_eq_getElem this]
    exact hl _ (List.getElem_mem this)
  · exact hf i
theorem four_isB : ∀ y ∈ four x, isB y := fun y hy => by
  unfold four at hy
  simp only [List.mem_cons, List.mem_nil_iff, or_false] at hy
  rcases hy with h | h | h | h <;> rw [h] <;> exact isB_8 _
theorem tw_isB {x1 x2 x3 x4 x5 : Int32} : ∀ y ∈ tw x1 x2 x3 x4 x5, isB y := fun y hy => by
  unfold tw at hy
  rw [List.mem_append, List.mem_append, List.mem_append, List.mem_append] at hy
  rcases hy with (((h | h) | h) | h) | h <;> exact four_isB y h
/-- what the buffer's calls change: thrown, filled, the buffer -/
def BQ (c c' : Nat → List Value) : Prop := (∀ i, i ≠ 70 → i ≠ 77 → c' i = c i) ∧ ∀ z, c 70 = moL z → ∃ z', c' 70 = moL z' ∧ z' 0 = nI 0 ∧ ∀ i, i ≠ 0 → i ≠ 13 → z' i = z i
theorem RF.b (R : RF c n g w) (B : BQ c c') : RF c' n g w := by
  obtain ⟨z, hz, h9, h6⟩ := R.Z
  obtain ⟨z', hz', -, h⟩ := B.2 z hz
  exact R.same (R.S.same (fun i hi => B.1 i (by omega) (by omega))) (B.1 71 (by decide) (by decide)) hz hz' (h 9 (by decide) (by decide)) (h 6 (by decide) (by decide))
theorem HF.b {ch kp : Nat} {Hg Hw Sg Sw : Nat → Nat → Nat} {a : Nat → Int32} (X : HF c ch kp Hg Hw Sg Sw a) (B : BQ c c') : HF c' ch kp Hg Hw Sg Sw a := by
  obtain ⟨z, hz, -⟩ := X.M
  obtain ⟨z', hz', -, h⟩ := B.2 z hz
  exact X.same (fun i hi => B.1 i (by omega) (by omega)) hz hz' (h 7 (by decide) (by decide)) (h 8 (by decide) (by decide))
theorem BQ.th (hz : c 70 = moL z) : BQ c (cT c z (nI 0)) := ⟨fun i h _ => cT_ne h, fun z' hz' => ⟨up1 z' 0 (nI 0), by
  show up1 c 70 (moL (up1 z 0 (nI 0))) 70 = _
  rw [up1_same, ← moS0, ← moS0, ← hz, hz'], up1_same _ _ _, fun i h _ => up1_ne _ _ h⟩⟩
theorem q_bufferLength (I : IF c m f) : ∃ c', MSE m_X10_bufferLength d [.ref 70] (hp c) (some (.int (nI m))) (hp c') ∧ IF c' m f ∧ BQ c c' := by
  obtain ⟨⟨z, hz, h13⟩, h77, r⟩ := id I
  exact ⟨cT c z (nI 0), e_X10_bufferLength (b_X10_bufferLength_0 (x5 := nI m) (mo_H hz) (by show 0 < 27; decide) (by rw [th0]; exact cT_H) (by rw [← h13]; rfl) ⟨rfl, th0⟩), ⟨⟨_, up1_same _ _ _, h13⟩, (cT_ne (by decide)).trans h77, r⟩, BQ.th hz⟩
theorem q_truncate (I : IF c m f) {k : Nat} (hk : k ≤ m) : ∃ c', MSE m_X10_truncate (d + 1) [.ref 70, .int (nI k)] (hp c) (some (.int 1)) (hp c') ∧ IF c' k f ∧ BQ c c' := by
  obtain ⟨⟨z, hz, h13⟩, h77, hm, hB⟩ := id I
  have e2 : (hp (cT c z (nI 0))).set 70 (10, (moL (up1 z 0 (nI 0))).set 13 (.int (nI k))) = hp (up1 c 70 (moL (up1 (up1 z 0 (nI 0)) 13 (nI k)))) := mzs (fun _ => rfl)
  refine ⟨up1 c 70 (moL (up1 (up1 z 0 (nI 0)) 13 (nI k))), e_X10_truncate (b_X10_truncate_0 (x7 := nI m) (mo_H hz) (by show 0 < 27; decide) (by rw [th0]; exact cT_H) (by rw [← h13]; rfl) (by rw [th0]; exact isIn_1 (a := 0) (Nat.zero_le m) (by omega) (Nat.zero_le k) hk) (fun _ => b_X10_truncate_19 cT_H (by show 13 < 27; decide) ⟨rfl, e2⟩) (fun q => absurd q (by decide))), ⟨⟨_, up1_same _ _ _, up1_same _ _ _⟩, (up1_ne _ _ (by decide)).trans h77, by omega, hB⟩, fun i h _ => up1_ne _ _ h, fun z' hz' => ⟨up1 (up1 z' 0 (nI 0)) 13 (nI k), ?_, rfl, fun i h h2 => ?_⟩⟩
  · have e : ∀ z : Nat → Int32, moL (up1 (up1 z 0 (nI 0)) 13 (nI k)) = ((moL z).set 0 (.int (nI 0))).set 13 (.int (nI k)) := fun _ => rfl
    rw [up1_same, e, e, ← hz, hz']
  · rw [up1_ne _ _ h2, up1_ne _ _ h]
theorem q_truncate0 (I : IF c m f) (hx : x < 0 ∨ nI m < x) : ∃ c', MSE m_X10_truncate (d + 1) [.ref 70, .int x] (hp c) (some (.int 0)) (hp c') ∧ IF c' m f ∧ BQ c c' := by
  obtain ⟨⟨z, hz, h13⟩, h77, r⟩ := id I
  exact ⟨cT c z (nI 0), e_X10_truncate (b_X10_truncate_0 (x7 := nI m) (mo_H hz) (by show 0 < 27; decide) (by rw [th0]; exact cT_H) (by rw [← h13]; rfl) (by rw [th0]; exact isIn_0 hx) (fun q => absurd rfl q) (fun _ => b_X10_truncate_17 ⟨rfl, rfl⟩)), ⟨⟨_, up1_same _ _ _, h13⟩, (cT_ne (by decide)).trans h77, r⟩, BQ.th hz⟩
theorem q_append0 {x1 x2 x3 x4 x5 : Int32} (I : IF c m f) (h : 380 < m) : ∃ c', MSE m_X10_append (d + 1) [.ref 70, .int x1, .int x2, .int x3, .int x4, .int x5] (hp c) (some (.int (-1))) (hp c') ∧ IF c' m f ∧ BQ c c' := by
  obtain ⟨⟨z, hz, h13⟩, h77, hm, hB⟩ := id I
  refine ⟨cT c z (nI 0), e_X10_append (b_X10_append_0 (x5 := nI m) (mo_H hz) (by show 0 < 27; decide) (by rw [th0]; exact cT_H) (by rw [← h13]; rfl) (fun q => ?_) (fun _ => b_X10_append_18 ⟨rfl, th0⟩)), ⟨⟨_, up1_same _ _ _, h13⟩, (cT_ne (by decide)).trans h77, hm, hB⟩, BQ.th hz⟩
  have q : nI m + nI 20 ≤ nI 400 := q
  rw [nI_add] at q
  have := (nI_leI (by omega) (by decide)).mp q
  omega
theorem q_append {x1 x2 x3 x4 x5 : Int32} (I : IF c m f) (h : m ≤ 380) : ∃ c', MSE m_X10_append (d + 1) [.ref 70, .int x1, .int x2, .int x3, .int x4, .int x5] (hp c) (some (.int (nI (m + 20)))) (hp c') ∧ IF c' (m + 20) (lay f m (tw x1 x2 x3 x4 x5)) ∧ BQ c c' := by
  obtain ⟨⟨z, hz, h13⟩, h77, hm, hB⟩ := id I
  obtain ⟨z1, hz1⟩ : ∃ z1, z1 = up1 z 0 (nI 0) := ⟨_, rfl⟩
  have e0 : hp (cT c z (nI 0)) = hp (cB c z1 m f []) := by
    have e1 : cB c z1 m f [] = cT c z (nI 0) := by
      unfold cB cT
      rw [lay_nil, hz1, show up1 c 77 (ar 400 (fun i => bU (f i))) = c from up1_id h77]
      have : up1 (up1 z 0 (nI 0)) 13 (nI (m + ([] : List Int32).length)) = up1 z 0 (nI 0) := up1_id (by show z 13 = nI (m + 0); exact h13)
      rw [this]
    rw [e1]
  have hl : ∀ x, (four x).length = 4 := fun x => rfl
  have a1 := r_adds (d := d) (x := x1) (c := c) (z := z1) (m := m) (f := f) (l := []) (by show m + 0 + 4 ≤ 400; omega)
  have a2 := r_adds (d := d) (x := x2) (c := c) (z := z1) (m := m) (f := f) (l := [] ++ four x1) (by show m + 4 + 4 ≤ 400; omega)
  have a3 := r_adds (d := d) (x := x3) (c := c) (z := z1) (m := m) (f := f) (l := [] ++ four x1 ++ four x2) (by show m + 8 + 4 ≤ 400; omega)
  have a4 := r_adds (d := d) (x := x4) (c := c) (z := z1) (m := m) (f := f) (l := [] ++ four x1 ++ four x2 ++ four x3) (by show m + 12 + 4 ≤ 400; omega)
  have a5 := r_adds (d := d) (x := x5) (c := c) (z := z1) (m := m) (f := f) (l := [] ++ four x1 ++ four x2 ++ four x3 ++ four x4) (by show m + 16 + 4 ≤ 400; omega)
  refine ⟨cB c z1 m f (tw x1 x2 x3 x4 x5), e_X10_append (b_X10_append_0 (x5 := nI m) (mo_H hz) (by show 0 < 27; decide) (by rw [th0]; exact cT_H) (by rw [← h13]; rfl) (fun _ => ?_) (fun q => ?_)), ⟨⟨_, up1_same _ _ _, rfl⟩, (up1_ne _ _ (by decide)).trans (up1_same _ _ _), by omega, lay_isB hB tw_isB⟩, fun i h1 h2 => (up1_ne _ _ h1).trans (up1_ne _ _ h2), fun z' hz' => ⟨up1 (up1 z' 0 (nI 0)) 13 (nI (m + 20)), ?_, rfl, fun i h1 h2 => ?_⟩⟩
  · rw [th0, e0]
    exact b_X10_append_20 cB_M a1 cB_M a2 cB_M a3 cB_M a4 cB_M a5 cB_M rfl ⟨rfl, rfl⟩
  · exact absurd (show nI m + nI 20 ≤ nI 400 by rw [nI_add]; exact nI_le (by omega) (by decide)) q
  · have e : ∀ z : Nat → Int32, moL (up1 (up1 z 0 (nI 0)) 13 (nI (m + 20))) = ((moL z).set 0 (.int (nI 0))).set 13 (.int (nI (m + 20))) := fun _ => rfl
    show up1 _ 70 (moL (up1 z1 13 (nI (m + 20)))) 70 = _
    rw [up1_same, hz1, e, e, ← hz, hz']
  · rw [up1_ne _ _ h2, up1_ne _ _ h1]
end
