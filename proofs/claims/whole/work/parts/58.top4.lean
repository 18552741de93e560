section
variable {d n k m : Nat} {c : Nat → List Value} {g w q : Nat → Nat} {f : Nat → Int32}
/-- the codes, 17 and 18 -/
def CB (c : Nat → List Value) (q : Nat → Nat) : Prop := c 17 = [.ref 18] ∧ c 18 = ar 10 (fun i => nI (q i))
theorem CB.C (B : CB c q) : CO (hp c) 17 18 q := ⟨hp_is 17 1 B.1 (by decide) (by decide), hp_is 18 100 B.2 (by decide) (by decide)⟩
theorem t_code (N : NB c n g w) (B : CB c q) (h1 : n - ed g n = 1) (he : ed g n ≤ n) (ok : tkOk g n) {i : Nat} (hi : i < n - 2) : MSE m_X9_code (d + 4) [.ref 0, .int (nI i)] (hp c) (some (.int (nI (tkN g n i)))) (hp (up1 c 18 (ar 10 (fun i => nI (tkQ g n q (n - 2) i))))) := by
  have hn := N.le
  have m1 := s_take (d := d + 1) N.F B.C (by decide) (by decide) ok
  rw [hp_set (by decide) (by decide)] at m1
  have B2 : CB (up1 c 18 (ar 10 (fun i => nI (tkQ g n q (n - 2) i)))) (tkQ g n q (n - 2)) := ⟨by rw [up1_ne _ _ (by decide)]; exact B.1, up1_same _ _ _⟩
  have N2 := N.off (i := 18) (v := ar 10 (fun i => nI (tkQ g n q (n - 2) i))) (by decide)
  have m2 := s_number (d := d + 3) B2.C (show i < 10 by omega)
  rw [tkQ_at _ _ hi] at m2
  exact e_X9_code (b_X9_code_0 N.O (s_needTree N h1 he) (fun q => absurd q (nI_pos (by omega))) (fun _ => b_X9_code_8 N.O rfl N.F.1 rfl (s_codeLength (by omega)) (fun _ => b_X9_code_32 N.O rfl N.O rfl B.C.1 m1 N2.O rfl B2.C.1 m2 ⟨rfl, rfl⟩) (fun q => absurd (nI_lt hi (by omega)) q)))
theorem t_codeX3 (N : NB c n g w) (h1 : n - ed g n ≠ 1) (he : ed g n ≤ n) {x : Int32} : MSX m_X9_code (d + 4) [.ref 0, .int x] (hp c) 3 (hp c) :=
  e_X9_code (bx_X9_code_0_1 N.O (s_needTreeX N h1 he) (st_out rfl ⟨rfl, rfl⟩))
theorem t_codeX4 (N : NB c n g w) (h1 : n - ed g n = 1) (he : ed g n ≤ n) {x : Int32} (hx : ∀ i, i < n - 2 → x ≠ nI i) : MSX m_X9_code (d + 4) [.ref 0, .int x] (hp c) 4 (hp c) := by
  have hn := N.le
  refine e_X9_code (b_X9_code_0 N.O (s_needTree N h1 he) (fun _ => b_X9_code_22 ⟨rfl, rfl⟩) (fun q0 => b_X9_code_8 N.O rfl N.F.1 rfl (s_codeLength (by omega)) (fun q => ?_) (fun _ => b_X9_code_22 ⟨rfl, rfl⟩)))
  rcases pk_ix x (n := n - 2) (by omega) with h | h | ⟨j, hj, e⟩
  · exact absurd h q0
  · exact absurd q (by
      intro q'
      have := Int32.not_lt.mpr h
      exact this q')
  · exact absurd e (hx j hj)
theorem t_rank (N : NB c n g w) (B : CB c q) (h1 : n - ed g n = 1) (he : ed g n ≤ n) (ok : tkOk g n) : MSE m_X9_rank (d + 4) [.ref 0] (hp c) (some (.int (nI (rk n (tkN g n) (n - 2))))) (hp (up1 c 18 (ar 10 (fun i => nI (tkQ g n q (n - 2) i))))) := by
  have m1 := s_rankOf (d := d) N.F B.C (by decide) (by decide) ok
  rw [hp_set (by decide) (by decide)] at m1
  exact e_X9_rank (b_X9_rank_0 N.O (s_needTree N h1 he) N.O rfl N.O rfl B.C.1 m1 ⟨rfl, rfl⟩)
theorem t_rankX (N : NB c n g w) (h1 : n - ed g n ≠ 1) (he : ed g n ≤ n) : MSX m_X9_rank (d + 4) [.ref 0] (hp c) 3 (hp c) :=
  e_X9_rank (bx_X9_rank_0_1 N.O (s_needTreeX N h1 he) (st_out rfl ⟨rfl, rfl⟩))
/-- factorials are no ints of 0 -/
theorem fac_ok : ∀ k, k ≤ 10 → 0 < fac k ∧ fac k < 2147483648 := by decide
theorem s_facM {h : ab_H} {a b : Nat} (ha : a < 100) (hb : b < a ∨ (a = 0 ∧ b = 1) ∨ (a = b) ∨ (a = 1 ∧ b = 2)) (hb2 : b ≤ 2) : MSE m_X9_factorial d [.int (nI a - nI b)] h (some (.int (nI (fac (a - b))))) h := by
  by_cases hab : b ≤ a
  · rw [pk_sub hab]; exact s_factorial (by omega)
  · have e : (a = 0 ∧ b = 1) ∨ (a = 1 ∧ b = 2) := by omega
    rcases e with ⟨rfl, rfl⟩ | ⟨rfl, rfl⟩
    · exact s_factorialN (by decide)
    · exact s_factorialN (by decide)
/-- the ways to spread a tree's degrees -/
def sdU (g : Nat → Nat) (n : Nat) : Nat → Nat
  | 0 => fac (n - 2)
  | k + 1 => sdU g n k / fac (pc (g k) - 1)
theorem sdU_le {g : Nat → Nat} {n : Nat} : ∀ k, sdU g n k ≤ fac (n - 2)
  | 0 => Nat.le_refl _
  | k + 1 => Nat.le_trans (Nat.div_le_self _ _) (sdU_le k)
theorem t_sameDegrees (N : NB c n g w) (h1 : n - ed g n = 1) (he : ed g n ≤ n) : MSE m_X9_sameDegrees (d + 4) [.ref 0] (hp c) (some (.int (nI (sdU g n n)))) (hp c) := by
  have hn := N.le
  have hn1 := N.one
  have hb : ∀ k, sdU g n k < 2147483648 := fun k => Nat.lt_of_le_of_lt (sdU_le k) (fac_ok (n - 2) (by omega)).2
  refine e_X9_sameDegrees (b_X9_sameDegrees_0 N.O (s_needTree N h1 he) N.O rfl N.F.1 rfl (s_facM (b := 2) (by omega) (by omega) (by decide)) ?_)
  refine up_all (n := n) (T := fun k => a_X9_sameDegrees_19 (d + 4) 0 0 0 (nI (sdU g n k)) (nI k) (hp c) (rI (nI (sdU g n n)) (hp c))) (fun k hk ih => ?_) ?_
  · have hp1 := pc_le (g k)
    have hf := fac_ok (pc (g k) - 1) (by omega)
    refine b_X9_sameDegrees_19 N.O rfl N.F.1 rfl (fun q => absurd q (nI_ge hk (by omega))) (fun _ => b_X9_sameDegrees_30 N.O rfl N.F.1 (s_degree N.F (by omega)) (s_facM (b := 1) (by omega) (by omega) (by decide)) (s_quotient (nI_ne0 hf.1 hf.2)) ?_)
    rw [nI_1, pk_div (hb k) hf.1 hf.2]
    exact ih
  · exact b_X9_sameDegrees_19 N.O rfl N.F.1 rfl (fun _ => b_X9_sameDegrees_54 ⟨rfl, rfl⟩) (fun q => absurd (nI_le (Nat.le_refl n) (by omega)) q)
theorem t_sameDegreesX (N : NB c n g w) (h1 : n - ed g n ≠ 1) (he : ed g n ≤ n) : MSX m_X9_sameDegrees (d + 4) [.ref 0] (hp c) 3 (hp c) :=
  e_X9_sameDegrees (bx_X9_sameDegrees_0_1 N.O (s_needTreeX N h1 he) (st_out rfl ⟨rfl, rfl⟩))
/-! counts: 27 with its rows 28, 29, 30 -/
def KB (c : Nat → List Value) (P R S : Nat → Int32) : Prop := c 27 = [.ref 28, .ref 29, .ref 30] ∧ c 28 = ar 11 P ∧ c 29 = ar 11 R ∧ c 30 = ar 11 S
theorem KB.C {P R S : Nat → Int32} (K : KB c P R S) : CN (hp c) 27 28 29 30 P R S := ⟨hp_is 27 2 K.1 (by decide) (by decide), hp_is 28 100 K.2.1 (by decide) (by decide), hp_is 29 100 K.2.2.1 (by decide) (by decide), hp_is 30 100 K.2.2.2 (by decide) (by decide), by decide, by decide, by decide⟩
theorem t_withLeaves {P R S : Nat → Int32} (h0 : c 0 = x0L) (K : KB c P R S) {l : Nat} (h1 : 1 ≤ n) (hn : n ≤ 10) (hl : l ≤ 10) : MSE m_X9_withLeaves (d + 3) [.ref 0, .int (nI n), .int (nI l)] (hp c) (some (.int (nI (wlX n l)))) (hp (up1 c 28 (ar 11 (wlP n l P)))) := by
  have m1 := s_treesWithLeaves (d := d) K.C h1 hn hl
  rw [hp_set (by decide) (by decide)] at m1
  exact e_X9_withLeaves (b_X9_withLeaves_0 (fun q => absurd q (nI_nlt (a := n) (b := 1) h1 (by omega))) (fun _ => b_X9_withLeaves_5 (fun q => absurd q (nI_nlt (a := 10) (b := n) hn (by decide))) (fun _ => b_X9_withLeaves_11 (fun q => absurd q (nI_pos (by omega))) (fun _ => b_X9_withLeaves_15 (fun _ => b_X9_withLeaves_32 (hp_is 0 9 h0 (by decide) (by decide)) rfl K.C.1 m1 ⟨rfl, rfl⟩) (fun q => absurd (nI_le (a := l) (b := 10) hl (by decide)) q)))))
theorem t_withLeavesX {x y : Int32} (hx : x < 1 ∨ 10 < x ∨ y < 0 ∨ ¬ y ≤ 10) : MSX m_X9_withLeaves (d + 3) [.ref 0, .int x, .int y] (hp c) 2 (hp c) :=
  e_X9_withLeaves (b_X9_withLeaves_0 (fun _ => b_X9_withLeaves_21 ⟨rfl, rfl⟩) (fun q1 => b_X9_withLeaves_5 (fun _ => b_X9_withLeaves_21 ⟨rfl, rfl⟩) (fun q2 => b_X9_withLeaves_11 (fun _ => b_X9_withLeaves_21 ⟨rfl, rfl⟩) (fun q3 => b_X9_withLeaves_15 (fun q4 => by rcases hx with h | h | h | h <;> contradiction) (fun _ => b_X9_withLeaves_21 ⟨rfl, rfl⟩)))))
def cKt (c : Nat → List Value) (R : Nat → Int32) : Nat → List Value := up1 (up1 c 29 (ar 11 (rr R 10))) 30 (ar 11 (fun i => nI (dm 9 i)))
theorem t_classesR {P R S : Nat → Int32} (h0 : c 0 = x0L) (K : KB c P R S) {b : Int32} (hb : ¬ b = 0) (h1 : 1 ≤ n) (hn : n ≤ 10) : MSE m_X9_classes (d + 3) [.ref 0, .int (nI n), .int b] (hp c) (some (.int (nI (rt n)))) (hp (cKt c R)) := by
  have m1 := s_rootedClasses (d := d) K.C h1 hn
  rw [hp_set (by decide) (by decide), hp_set (by decide) (by decide)] at m1
  exact e_X9_classes (b_X9_classes_0 (fun q => absurd q (nI_nlt (a := n) (b := 1) h1 (by omega))) (fun _ => b_X9_classes_5 (fun _ => b_X9_classes_22 (fun q => absurd q hb) (fun _ => b_X9_classes_26 (hp_is 0 9 h0 (by decide) (by decide)) rfl K.C.1 m1 (b_X9_classes_45 ⟨rfl, rfl⟩))) (fun q => absurd (nI_le (a := n) (b := 10) hn (by decide)) q)))
theorem t_classesF {P R S : Nat → Int32} (h0 : c 0 = x0L) (K : KB c P R S) (h1 : 1 ≤ n) (hn : n ≤ 10) : MSE m_X9_classes (d + 3) [.ref 0, .int (nI n), .int 0] (hp c) (some (.int (fr n))) (hp (cKt c R)) := by
  have m1 := s_freeClasses (d := d) K.C h1 hn
  rw [hp_set (by decide) (by decide), hp_set (by decide) (by decide)] at m1
  exact e_X9_classes (b_X9_classes_0 (fun q => absurd q (nI_nlt (a := n) (b := 1) h1 (by omega))) (fun _ => b_X9_classes_5 (fun _ => b_X9_classes_22 (fun _ => b_X9_classes_37 (hp_is 0 9 h0 (by decide) (by decide)) rfl K.C.1 m1 (b_X9_classes_45 ⟨rfl, rfl⟩)) (fun q => absurd rfl q)) (fun q => absurd (nI_le (a := n) (b := 10) hn (by decide)) q)))
theorem t_classesX {x y : Int32} (hx : x < 1 ∨ ¬ x ≤ 10) : MSX m_X9_classes (d + 3) [.ref 0, .int x, .int y] (hp c) 2 (hp c) :=
  e_X9_classes (b_X9_classes_0 (fun _ => b_X9_classes_11 ⟨rfl, rfl⟩) (fun q1 => b_X9_classes_5 (fun q2 => by rcases hx with h | h <;> contradiction) (fun _ => b_X9_classes_11 ⟨rfl, rfl⟩)))
/-! the output 9, the input 2 -/
def OB (c : Nat → List Value) (m : Nat) (f : Nat → Int32) : Prop := c 9 = [.ref 10, .int (nI m)] ∧ c 10 = ar 400 f ∧ m ≤ 400
theorem OB.B (B : OB c m f) : BY (hp c) 9 10 m f := ⟨hp_is 9 0 B.1 (by decide) (by decide), hp_is 10 101 B.2.1 (by decide) (by decide), B.2.2⟩
theorem t_outputByte (h0 : c 0 = x0L) (B : OB c m f) {i : Nat} (hi : i < m) : MSE m_X9_outputByte (d + 1) [.ref 0, .int (nI i)] (hp c) (some (.int (f i))) (hp c) := by
  have := B.2.2
  exact e_X9_outputByte (b_X9_outputByte_0 (fun q => absurd q (nI_pos (by omega))) (fun _ => b_X9_outputByte_4 (hp_is 0 9 h0 (by decide) (by decide)) rfl B.B.1 rfl (fun _ => b_X9_outputByte_26 (hp_is 0 9 h0 (by decide) (by decide)) rfl B.B.1 (s_at B.B hi) ⟨rfl, rfl⟩) (fun q => absurd (nI_lt hi (by omega)) q)))
theorem t_outputByteX (h0 : c 0 = x0L) (B : OB c m f) {x : Int32} (hx : x < 0 ∨ ¬ x < nI m) : MSX m_X9_outputByte (d + 1) [.ref 0, .int x] (hp c) 4 (hp c) :=
  e_X9_outputByte (b_X9_outputByte_0 (fun _ => b_X9_outputByte_15 ⟨rfl, rfl⟩) (fun q1 => b_X9_outputByte_4 (hp_is 0 9 h0 (by decide) (by decide)) rfl B.B.1 rfl (fun q2 => by rcases hx with h | h <;> contradiction) (fun _ => b_X9_outputByte_15 ⟨rfl, rfl⟩)))
/-- the input: the reader 1 holds it -/
def IB (c : Nat → List Value) (m : Nat) (f : Nat → Int32) : Prop := (∃ p, c 1 = rdL p) ∧ c 2 = [.ref 3, .int (nI m)] ∧ c 3 = ar 400 f ∧ m ≤ 400
theorem IB.B (B : IB c m f) : BY (hp c) 2 3 m f := ⟨hp_is 2 0 B.2.1 (by decide) (by decide), hp_is 3 101 B.2.2.1 (by decide) (by decide), B.2.2.2⟩
theorem t_bufferLength (h0 : c 0 = x0L) (B : IB c m f) : MSE m_X9_bufferLength d [.ref 0] (hp c) (some (.int (nI m))) (hp c) := by
  obtain ⟨⟨p, hp1⟩, b2⟩ := id B
  exact e_X9_bufferLength (b_X9_bufferLength_0 (hp_is 0 9 h0 (by decide) (by decide)) rfl (hp_is 1 6 hp1 (by decide) (by decide)) rfl B.B.1 rfl ⟨rfl, rfl⟩)
theorem t_truncate (h0 : c 0 = x0L) (B : IB c m f) {x : Nat} (hx : x ≤ m) : MSE m_X9_truncate (d + 1) [.ref 0, .int (nI x)] (hp c) (some (.int 1)) (hp (up1 c 2 [.ref 3, .int (nI x)])) := by
  obtain ⟨⟨p, hp1⟩, b2⟩ := id B
  have m1 := s_shorten (d := d) B.B hx
  rw [hp_set (by decide) (by decide)] at m1
  exact e_X9_truncate (b_X9_truncate_0 (hp_is 0 9 h0 (by decide) (by decide)) rfl (hp_is 1 6 hp1 (by decide) (by decide)) rfl B.B.1 m1 (by decide) ⟨rfl, rfl⟩)
theorem t_truncate0 (h0 : c 0 = x0L) (B : IB c m f) {x : Int32} (hx : x < 0 ∨ ¬ x ≤ nI m) : MSE m_X9_truncate (d + 1) [.ref 0, .int x] (hp c) (some (.int 0)) (hp c) := by
  obtain ⟨⟨p, hp1⟩, b2⟩ := id B
  exact e_X9_truncate (b_X9_truncate_0 (hp_is 0 9 h0 (by decide) (by decide)) rfl (hp_is 1 6 hp1 (by decide) (by decide)) rfl B.B.1 (s_shorten0 (d := d) B.B hx) (by decide) ⟨rfl, rfl⟩)
/-- the input behind more of it -/
def cI (c : Nat → List Value) (m : Nat) (f : Nat → Int32) (l : List Int32) : Nat → List Value := up1 (up1 c 3 (ar 400 (lay f m l))) 2 [.ref 3, .int (nI (m + l.length))]
theorem bL_cI {l : List Int32} : bL (hp c) 2 3 m f l = hp (cI c m f l) := by
  unfold bL bH
  rw [hp_set (by decide) (by decide), hp_set (by decide) (by decide)]; rfl
def tw (x1 x2 x3 x4 x5 : Int32) : List Int32 := four x1 ++ four x2 ++ four x3 ++ four x4 ++ four x5
theorem t_append0 (h0 : c 0 = x0L) (B : IB c m f) (hm : 380 < m) {x1 x2 x3 x4 x5 : Int32} : MSE m_X9_append (d + 2) [.ref 0, .int x1, .int x2, .int x3, .int x4, .int x5] (hp c) (some (.int (-1))) (hp c) := by
  obtain ⟨⟨p, hp1⟩, b2⟩ := id B
  have := B.2.2.2
  refine e_X9_append (b_X9_append_0 (hp_is 0 9 h0 (by decide) (by decide)) rfl (hp_is 1 6 hp1 (by decide) (by decide)) rfl B.B.1 rfl (fun q => ?_) (fun _ => b_X9_append_23 ⟨rfl, rfl⟩))
  have q : nI m + nI 20 ≤ nI 400 := q
  rw [nI_add] at q
  have := (nI_leI (by omega) (by decide)).mp q
  omega
theorem t_append (h0 : c 0 = x0L) (B : IB c m f) (hm : m ≤ 380) {x1 x2 x3 x4 x5 : Int32} : MSE m_X9_append (d + 2) [.ref 0, .int x1, .int x2, .int x3, .int x4, .int x5] (hp c) (some (.int (nI (m + 20)))) (hp (cI c m f (tw x1 x2 x3 x4 x5))) := by
  obtain ⟨⟨p, hp1⟩, b2⟩ := id B
  have hl : ∀ x, (four x).length = 4 := fun x => rfl
  have k := fun (l : List Int32) (h : m + l.length ≤ 400) => (B.B.toL (l := l) h).1
  refine e_X9_append (b_X9_append_0 (hp_is 0 9 h0 (by decide) (by decide)) rfl (hp_is 1 6 hp1 (by decide) (by decide)) rfl B.B.1 rfl (fun _ => ?_) (fun q => ?_))
  · have m0 := s_putFour (d := d) B.B (l := []) (show m + 0 + 4 ≤ 400 by omega) (x := x1)
    rw [B.B.bL0] at m0
    have m1 := s_putFour (d := d) B.B (l := [] ++ four x1) (by simp only [List.length_append, hl, List.length_nil]; omega) (x := x2)
    have m2 := s_putFour (d := d) B.B (l := [] ++ four x1 ++ four x2) (by simp only [List.length_append, hl, List.length_nil]; omega) (x := x3)
    have m3 := s_putFour (d := d) B.B (l := [] ++ four x1 ++ four x2 ++ four x3) (by simp only [List.length_append, hl, List.length_nil]; omega) (x := x4)
    have m4 := s_putFour (d := d) B.B (l := [] ++ four x1 ++ four x2 ++ four x3 ++ four x4) (by simp only [List.length_append, hl, List.length_nil]; omega) (x := x5)
    refine b_X9_append_25 (x17 := nI (m + 20)) B.B.1 m0 (k _ (by simp only [List.length_append, hl, List.length_nil]; omega)) m1 (k _ (by simp only [List.length_append, hl, List.length_nil]; omega)) m2 (k _ (by simp only [List.length_append, hl, List.length_nil]; omega)) m3 (k _ (by simp only [List.length_append, hl, List.length_nil]; omega)) m4 (k _ (by simp only [List.length_append, hl, List.length_nil]; omega)) rfl ⟨rfl, ?_⟩
    rw [bL_cI]; rfl
  · have q : ¬ nI m + nI 20 ≤ nI 400 := q
    rw [nI_add] at q
    exact absurd (nI_le (show m + 20 ≤ 400 by omega) (by decide)) q
/-! accounts -/
def AB (c : Nat → List Value) (a : Nat → Int32) : Prop := c 69 = ar 10 a
theorem AB.H {a : Nat → Int32} (A : AB c a) : (hp c)[69]? = some (100, ar 10 a) := hp_is 69 100 A (by decide) (by decide)
theorem t_account {a : Nat → Int32} (h0 : c 0 = x0L) (A : AB c a) {i : Nat} (hi : i < 10) : MSE m_X9_account d [.ref 0, .int (nI i)] (hp c) (some (.int (a i))) (hp c) :=
  e_X9_account (b_X9_account_0 (fun q => absurd q (nI_pos (by omega))) (fun _ => b_X9_account_4 (fun _ => b_X9_account_21 (hp_is 0 9 h0 (by decide) (by decide)) rfl A.H (nI_pos (by omega)) (by rw [cl_nI (by omega)]; exact ar_at _ hi) ⟨rfl, rfl⟩) (fun q => absurd (nI_lt (b := 10) hi (by decide)) q)))
theorem t_accountX {x : Int32} (hx : x < 0 ∨ ¬ x < 10) : MSX m_X9_account d [.ref 0, .int x] (hp c) 2 (hp c) :=
  e_X9_account (b_X9_account_0 (fun _ => b_X9_account_10 ⟨rfl, rfl⟩) (fun q1 => b_X9_account_4 (fun q2 => by rcases hx with h | h <;> contradiction) (fun _ => b_X9_account_10 ⟨rfl, rfl⟩)))
end
