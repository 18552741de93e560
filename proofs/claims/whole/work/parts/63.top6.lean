section
variable {d n k m nx ch kp : Nat} {c : Nat → List Value} {g w q : Nat → Nat} {f : Nat → Int32} {V : Nat → Nat} {W : Nat → Nat → Int32} {a : Nat → Int32}
theorem t_fromRankX (N : NB c n g w) {x : Int32} (hx : x < 0 ∨ ¬ x < nI (n ^ (n - 2))) : MSX m_X9_fromRank (d + 5) [.ref 0, .int x] (hp c) 2 (hp c) := by
  have hn := N.le
  exact e_X9_fromRank (b_X9_fromRank_0 (fun _ => b_X9_fromRank_18 ⟨rfl, rfl⟩) (fun q1 => b_X9_fromRank_4 N.O rfl N.F.1 rfl (s_treesWith (by omega)) (fun q2 => by rcases hx with h | h <;> contradiction) (fun _ => b_X9_fromRank_18 ⟨rfl, rfl⟩)))
theorem pow_trees : ∀ n, n ≤ 10 → n ^ (n - 2) < 2147483648 := by decide
theorem t_fromRank (N : NB c n g w) (R : RB5 c nx ch kp) (A : AB c a) (B : CB c q) {r : Nat} (hr : r < n ^ (n - 2)) (hq : ∀ i, i < n - 2 → srQ n r q (n - 2) i < n) : MSE m_X9_fromRank (d + 5) [.ref 0, .int (nI r)] (hp c) (some (.int (nI (fre g (plT (srQ n r q (n - 2)) n) w n)))) (hp (cA (up1 (up1 (cR c nx ch kp g w) 18 (ar 10 (fun i => nI (srQ n r q (n - 2) i)))) 12 (ar 10 (fun i => nI (plT (srQ n r q (n - 2)) n i)))) a 4)) := by
  have hn := N.le
  have hp2 := pow_trees n hn
  exact e_X9_fromRank (b_X9_fromRank_0 (fun q => absurd q (nI_pos (by omega))) (fun _ => b_X9_fromRank_4 N.O rfl N.F.1 rfl (s_treesWith (by omega)) (fun _ => b_X9_fromRank_29 N.O (t_becomeTree N R A B (by omega) hq) ⟨rfl, rfl⟩) (fun q => absurd (nI_lt hr (by omega)) q)))
/-- the next tree there is none -/
theorem t_nextTreeN (N : NB c n g w) (A : AB c a) (h1 : n - ed g n ≠ 1) (he : ed g n ≤ n) : MSE m_X9_nextTree (d + 5) [.ref 0] (hp c) (some (.int (-1))) (hp (cA c a 8)) := by
  have hn := N.le
  have hp2 := pow_trees n hn
  exact e_X9_nextTree (b_X9_nextTree_0 N.O rfl N.F.1 (s_components N.F he) (fun _ => b_X9_nextTree_27 N.O rfl N.F.1 rfl (s_treesWith (by omega)) (b_X9_nextTree_37 N.O rfl N.F.1 rfl (s_treesWith (by omega)) (fun q => absurd q (nI_nlt (Nat.le_refl _) (by omega))) (fun _ => b_X9_nextTree_52 N.O rfl A.H (by decide) (acc_at (i := 8) (by decide)) A.H (by decide) (acc_ln (i := 8) (by decide)) ⟨rfl, acc_hp (i := 8) (by decide)⟩))) (fun q => absurd ((i_eq (b := 1) (by omega) (by decide)).mp q) h1))
theorem t_nextTreeL (N : NB c n g w) (A : AB c a) (B : CB c q) (h1 : n - ed g n = 1) (he : ed g n ≤ n) (ok : tkOk g n) (hr : rk n (tkN g n) (n - 2) + 1 = n ^ (n - 2)) : MSE m_X9_nextTree (d + 5) [.ref 0] (hp c) (some (.int (-1))) (hp (cA (up1 c 18 (ar 10 (fun i => nI (tkQ g n q (n - 2) i)))) a 8)) := by
  have hn := N.le
  have hp2 := pow_trees n hn
  have m0 := s_components (d := d + 2) N.F he
  rw [h1] at m0
  have m1 := s_rankOf (d := d + 1) N.F B.C (by decide) (by decide) ok
  rw [hp_set (by decide) (by decide)] at m1
  have N2 := N.off (i := 18) (v := ar 10 (fun i => nI (tkQ g n q (n - 2) i))) (by decide)
  have A2 : AB (up1 c 18 (ar 10 (fun i => nI (tkQ g n q (n - 2) i)))) a := (up1_ne _ _ (by decide)).trans A
  refine e_X9_nextTree (b_X9_nextTree_0 N.O rfl N.F.1 m0 (fun q => absurd rfl q) (fun _ => b_X9_nextTree_11 N.O rfl N.O rfl B.C.1 m1 ?_))
  rw [nI_1, hr]
  exact b_X9_nextTree_37 N2.O rfl N2.F.1 rfl (s_treesWith (by omega)) (fun q => absurd q (nI_nlt (Nat.le_refl _) (by omega))) (fun _ => b_X9_nextTree_52 N2.O rfl A2.H (by decide) (acc_at (i := 8) (by decide)) A2.H (by decide) (acc_ln (i := 8) (by decide)) ⟨rfl, acc_hp (i := 8) (by decide)⟩)
theorem t_nextTree (N : NB c n g w) (R : RB5 c nx ch kp) (A : AB c a) (B : CB c q) (h1 : n - ed g n = 1) (he : ed g n ≤ n) (ok : tkOk g n) {r : Nat} (hrk : rk n (tkN g n) (n - 2) + 1 = r) (hr : r < n ^ (n - 2)) (hq : ∀ i, i < n - 2 → srQ n r (tkQ g n q (n - 2)) (n - 2) i < n) : MSE m_X9_nextTree (d + 5) [.ref 0] (hp c) (some (.int (nI r))) (hp (cA (up1 (up1 (cR (up1 c 18 (ar 10 (fun i => nI (tkQ g n q (n - 2) i)))) nx ch kp g w) 18 (ar 10 (fun i => nI (srQ n r (tkQ g n q (n - 2)) (n - 2) i)))) 12 (ar 10 (fun i => nI (plT (srQ n r (tkQ g n q (n - 2)) (n - 2)) n i)))) a 4)) := by
  have hn := N.le
  have hp2 := pow_trees n hn
  have m0 := s_components (d := d + 2) N.F he
  rw [h1] at m0
  have m1 := s_rankOf (d := d + 1) N.F B.C (by decide) (by decide) ok
  rw [hp_set (by decide) (by decide)] at m1
  have N2 := N.off (i := 18) (v := ar 10 (fun i => nI (tkQ g n q (n - 2) i))) (by decide)
  have A2 : AB (up1 c 18 (ar 10 (fun i => nI (tkQ g n q (n - 2) i)))) a := (up1_ne _ _ (by decide)).trans A
  have B2 : CB (up1 c 18 (ar 10 (fun i => nI (tkQ g n q (n - 2) i)))) (tkQ g n q (n - 2)) := ⟨(up1_ne _ _ (by decide)).trans B.1, up1_same _ _ _⟩
  have R2 : RB5 (up1 c 18 (ar 10 (fun i => nI (tkQ g n q (n - 2) i)))) nx ch kp := by
    obtain ⟨r1, r2, ⟨q', r3⟩, r4, r5⟩ := R
    exact ⟨(up1_ne _ _ (by decide)).trans r1, (up1_ne _ _ (by decide)).trans r2, ⟨q', (up1_ne _ _ (by omega)).trans r3⟩, r4, r5⟩
  refine e_X9_nextTree (b_X9_nextTree_0 N.O rfl N.F.1 m0 (fun q => absurd rfl q) (fun _ => b_X9_nextTree_11 N.O rfl N.O rfl B.C.1 m1 ?_))
  rw [nI_1, hrk]
  exact b_X9_nextTree_37 N2.O rfl N2.F.1 rfl (s_treesWith (by omega)) (fun _ => b_X9_nextTree_65 N2.O (t_becomeTree N2 R2 A2 B2 (by omega) hq) ⟨rfl, rfl⟩) (fun q => absurd (nI_lt hr (by omega)) q)
/-! symmetries, labellings -/
theorem t_symmetriesX (N : NB c n g w) {x : Int32} (h0 : cs g n x = 0) : MSX m_X9_symmetries (d + 6) [.ref 0, .int x] (hp c) 1 (hp c) :=
  e_X9_symmetries (bx_X9_symmetries_0_10 N.O rfl N.O rfl N.O (s_neededComponentX N h0) (st_out rfl ⟨rfl, rfl⟩))
theorem t_symmetries (N : NB c n g w) (X : WX 19 c k V W) {x : Int32} {l : Nat} (h0 : cs g n x ≠ 0) (hl : low (cs g n x) = some l) (hln : l < n) : MSE m_X9_symmetries (d + 6) [.ref 0, .int x] (hp c) (some (.int (syX g n l (V, W)))) (hp (cW 19 c k (syS g n l (V, W)).2)) := by
  have D := X.D (Or.inl rfl)
  have m1 := s_symmetriesOf (d := d) N.F D ap19 D.S D.2.2.1 (cs_lt (x := x) N.F.2.2.2.2.2 N.le) hl hln
  rw [D.id, hW_hp (Or.inl rfl)] at m1
  exact e_X9_symmetries (b_X9_symmetries_0 N.O rfl N.O rfl N.O (s_neededComponent N h0) D.1 m1 ⟨rfl, rfl⟩)
theorem t_labellingsX (N : NB c n g w) {x : Int32} (h0 : cs g n x = 0) : MSX m_X9_labellings (d + 6) [.ref 0, .int x] (hp c) 1 (hp c) :=
  e_X9_labellings (bx_X9_labellings_0_2 N.O (s_neededComponentX N h0) (st_out rfl ⟨rfl, rfl⟩))
theorem t_labellings (N : NB c n g w) (X : WX 19 c k V W) {x : Int32} {l : Nat} (h0 : cs g n x ≠ 0) (hl : low (cs g n x) = some l) (hln : l < n) (hy : ¬ syX g n l (V, W) = 0) : MSE m_X9_labellings (d + 6) [.ref 0, .int x] (hp c) (some (.int (nI (fac (pc (cs g n x))) / syX g n l (V, W)))) (hp (cW 19 c k (syS g n l (V, W)).2)) := by
  have D := X.D (Or.inl rfl)
  have hpl := pc_le (cs g n x)
  have m1 := s_symmetriesOf (d := d) N.F D ap19 D.S D.2.2.1 (cs_lt (x := x) N.F.2.2.2.2.2 N.le) hl hln
  rw [D.id, hW_hp (Or.inl rfl)] at m1
  exact e_X9_labellings (b_X9_labellings_0 N.O (s_neededComponent N h0) (s_bitCount (cs_lt (x := x) N.F.2.2.2.2.2 N.le)) (s_factorial (by omega)) N.O rfl N.O rfl D.1 m1 (s_quotient hy) ⟨rfl, rfl⟩)
/-! words and texts that are written -/
theorem s_signAt {h : ab_H} {x i : Nat} (hx : x < 2147483648) (hi : i < 20) : MSE m_X8_signAt (d + 1) [.int (nI x), .int (nI i)] h (some (.int (if x.testBit (19 - i) = true then 41 else 40))) h := by
  have e : (19 : Int32) - nI i = nI (19 - i) := pk_sub (a := 19) (b := i) (by omega)
  refine e_X8_signAt (b_X8_signAt_0 (by rw [e]; exact s_holds hx (by omega)) (fun q => b_X8_signAt_16 (b_X8_signAt_18 ⟨?_, rfl⟩)) (fun q => b_X8_signAt_11 (b_X8_signAt_18 ⟨?_, rfl⟩)))
  · rw [if_neg (show ¬ x.testBit (19 - i) = true by rw [h01.mp q]; decide)]
  · rw [if_pos (tb_of q)]
def sgn (x : Nat) (i : Nat) : Int32 := if x.testBit (19 - i) = true then 41 else 40
/-- the output behind more of it -/
def cO (c : Nat → List Value) (f : Nat → Int32) (l : List Int32) : Nat → List Value := up1 (up1 c 10 (ar 400 (lay f 0 l))) 9 [.ref 10, .int (nI l.length)]
theorem cO_ne {l : List Int32} {i : Nat} (h : i ≠ 9 ∧ i ≠ 10) : cO c f l i = c i := by
  unfold cO
  rw [up1_ne _ _ h.1, up1_ne _ _ h.2]
theorem OB.nil (B : OB c m f) : up1 c 9 [.ref 10, .int (nI 0)] = cO c f [] := by
  unfold cO
  rw [lay_nil]
  congr 1
  funext j
  unfold up1
  by_cases e : j = 10
  · rw [if_pos e, e]; exact B.2.1
  · rw [if_neg e]
theorem OB.base (B : OB c m f) : OB (up1 c 9 [.ref 10, .int (nI 0)]) 0 f := ⟨up1_same _ _ _, (up1_ne _ _ (by decide)).trans B.2.1, Nat.zero_le _⟩
theorem OB.toL (B : OB c m f) {l : List Int32} : bL (hp (up1 c 9 [.ref 10, .int (nI 0)])) 9 10 0 f l = hp (cO c f l) := by
  unfold bL bH
  rw [hp_set (by decide) (by decide), hp_set (by decide) (by decide), up1_cm (i := 9) (j := 10) (by decide), up1_up1, Nat.zero_add]; rfl
theorem NB.out (N : NB c n g w) {l : List Int32} : NB (cO c f l) n g w :=
  ⟨by rw [cO_ne (by decide)]; exact N.1, by rw [cO_ne (by decide)]; exact N.2.1, by rw [cO_ne (by decide)]; exact N.2.2.1, by rw [cO_ne (by decide)]; exact N.2.2.2.1, N.2.2.2.2⟩
theorem OB.h9 {l : List Int32} : (hp (cO c f l))[9]? = some (0, [.ref 10, .int (nI l.length)]) := hp_is 9 0 (up1_same _ _ _) (by decide) (by decide)
theorem t_writeWordX (N : NB c n g w) {x : Int32} (h0 : cs g n x = 0) : MSX m_X9_writeWord (d + 6) [.ref 0, .int x] (hp c) 1 (hp c) :=
  e_X9_writeWord (bx_X9_writeWord_0_2 N.O (s_neededComponentX N h0) (st_out rfl ⟨rfl, rfl⟩))
theorem t_writeWord (N : NB c n g w) (X : WX 19 c k V W) (B : OB c m f) {x : Int32} {l u : Nat} (h0 : cs g n x ≠ 0) (hl : low (cs g n x) = some l) (hln : l < n) (hu : (wo g n (cs g n x) (V, W)).2 = nI u) (hu2 : u < 2147483648) : MSE m_X9_writeWord (d + 6) [.ref 0, .int x] (hp c) (some (.int (nI (2 * pc (cs g n x))))) (hp (cO (cW 19 (up1 c 9 [.ref 10, .int (nI 0)]) k (wo g n (cs g n x) (V, W)).1.2) f ((List.range (2 * pc (cs g n x))).map (sgn u)))) := by
  have hn := N.le
  have hpl := pc_le (cs g n x)
  have hcs := cs_lt (x := x) N.F.2.2.2.2.2 hn
  have m0 := s_shorten (d := d + 5) B.B (Nat.zero_le m)
  rw [hp_set (by decide) (by decide)] at m0
  have N1 := N.off (i := 9) (v := [.ref 10, .int (nI 0)]) (by decide)
  have X1 : WX 19 (up1 c 9 [.ref 10, .int (nI 0)]) k V W := by
    obtain ⟨x1, x2, x3, x4, x5, x6⟩ := X
    refine ⟨(up1_ne _ _ (by decide)).trans x1, (up1_ne _ _ (by decide)).trans x2, x3, fun i hi => (up1_ne _ _ ?_).trans (x4 i hi), x5, x6⟩
    unfold wA; split <;> omega
  have D1 := X1.D (Or.inl rfl)
  have m1 := s_wordOf (d := d + 1) N1.F D1 ap19 D1.S D1.2.2.1 hcs hl hln
  rw [D1.id, hW_hp (Or.inl rfl), hu] at m1
  obtain ⟨c2, hc2⟩ : ∃ c2, c2 = cW 19 (up1 c 9 [.ref 10, .int (nI 0)]) k (wo g n (cs g n x) (V, W)).1.2 := ⟨_, rfl⟩
  rw [← hc2] at m1 ⊢
  have N2 : NB c2 n g w := by rw [hc2]; exact N1.wds
  have B2 : OB c2 0 f := by
    rw [hc2]
    exact ⟨(cW_ne (by omega)).trans (up1_same _ _ _), (cW_ne (by omega)).trans ((up1_ne _ _ (by decide)).trans B.2.1), Nat.zero_le _⟩
  have e9 : up1 c2 9 [.ref 10, .int (nI 0)] = c2 := by
    funext j
    unfold up1
    by_cases e : j = 9
    · rw [if_pos e, e]; exact B2.1.symm
    · rw [if_neg e]
  have e0 : hp (cO c2 f []) = hp c2 := by rw [← B2.nil, e9]
  have hL : ∀ j, bL (hp c2) 9 10 0 f ((List.range j).map (sgn u)) = hp (cO c2 f ((List.range j).map (sgn u))) := fun j => by
    have := B2.toL (l := (List.range j).map (sgn u))
    rw [e9] at this; exact this
  refine e_X9_writeWord (b_X9_writeWord_0 N.O (s_neededComponent N h0) N.O rfl B.B.1 m0 N1.O rfl N1.O rfl D1.1 m1 (s_bitCount hcs) ?_)
  rw [show (2 : Int32) * nI (pc (cs g n x)) = nI (2 * pc (cs g n x)) from pk_mul 2 (pc (cs g n x))]
  have key := up_all (n := 2 * pc (cs g n x)) (T := fun j => a_X9_writeWord_39 (d + 6) 0 0 0 (nI u) (nI (2 * pc (cs g n x))) (nI j) (hp (cO c2 f ((List.range j).map (sgn u)))) (rI (nI (2 * pc (cs g n x))) (hp (cO c2 f ((List.range (2 * pc (cs g n x))).map (sgn u)))))) (fun j hj ih => ?_) ?_
  · have e1 : hp (cO c2 f ((List.range 0).map (sgn u))) = hp c2 := e0
    rw [e1] at key; exact key
  · have m2 := s_put1 (d := d + 5) B2.B (l := (List.range j).map (sgn u)) (by rw [List.length_map, List.length_range]; omega) (x := if u.testBit (19 - j) = true then 41 else 40) (y := sgn u j) (by unfold sgn; split <;> decide)
    have e2 : (List.range j).map (sgn u) ++ [sgn u j] = (List.range (j + 1)).map (sgn u) := by rw [List.range_succ, List.map_append]; rfl
    rw [e2, hL, hL] at m2
    refine b_X9_writeWord_39 (fun q => absurd q (nI_ge hj (by omega))) (fun _ => b_X9_writeWord_46 N2.out.O rfl (s_signAt hu2 (by omega)) OB.h9 m2 ?_)
    rw [nI_1]; exact ih
  · refine b_X9_writeWord_39 (fun _ => b_X9_writeWord_65 N2.out.O rfl OB.h9 rfl ⟨?_, rfl⟩) (fun q => absurd (nI_le (Nat.le_refl _) (by omega)) q)
    rw [List.length_map, List.length_range]
end
/-! statements -/
def numL (v : Nat) : List Int32 := [32] ++ ((if 9 < v then [nI (48 + v / 10)] else []) ++ [nI (48 + v % 10)])
def stL (t v : Nat) (o : Option Nat) : List Int32 := ab_byt.getD t [] ++ (numL v ++ ((match o with
  | none => []
  | some u => numL u) ++ [59]))
theorem i8 : ∀ x, x < 128 → (nI x).toInt8.toInt32 = nI x := by decide +kernel
theorem numL_le {v : Nat} : (numL v).length ≤ 3 := by
  unfold numL
  split <;> simp
section
variable {d : Nat} {h : ab_H} {o a m : Nat} {f : Nat → Int32}
theorem s_putNumber (B : BY h o a m f) {l : List Int32} {v : Nat} (hv : v ≤ 99) (hm : m + l.length + 3 ≤ 400) : MSE m_X0_putNumber (d + 1) [.ref o, .int (nI v)] (bL h o a m f l) none (bL h o a m f (l ++ numL v)) := by
  have k := fun (l' : List Int32) (q : m + l'.length ≤ 400) => (B.toL (l := l') q).1
  have hdv : (48 : Int32) + nI v / 10 = nI (48 + v / 10) := by
    rw [show nI v / 10 = nI (v / 10) from pk_div (d := 10) (by omega) (by decide) (by decide)]
    exact nI_add 48 (v / 10)
  have hmd : (48 : Int32) + (nI v - nI v / 10 * 10) = nI (48 + v % 10) := by
    rw [show nI v - nI v / 10 * 10 = nI (v % 10) from pk_rem (d := 10) (by omega) (by decide) (by decide)]
    exact nI_add 48 (v % 10)
  have m0 := s_put1 (d := d) B (l := l) (by omega) (x := 32) (y := 32) (by decide)
  refine e_X0_putNumber (b_X0_putNumber_0 (k l (by omega)) m0 (fun q => ?_) (fun q => ?_))
  · have h9 : ¬ 9 < v := fun e => q |> fun q => absurd q (nI_ge (a := 9) (b := v) e (by omega))
    have m1 := s_put1 (d := d) B (l := l ++ [32]) (by rw [List.length_append]; show _ + (_ + 1) < _; omega) (x := nI (48 + v % 10)) (y := nI (48 + v % 10)) (i8 _ (by omega))
    refine b_X0_putNumber_23 (by decide) (k _ (by rw [List.length_append]; show _ + (_ + 1) ≤ _; omega)) (by rw [hmd]; exact m1) ⟨rfl, ?_⟩
    unfold numL
    rw [if_neg h9, List.append_assoc]; rfl
  · have h9 : 9 < v := by
      rcases Nat.lt_or_ge 9 v with e | e
      · exact e
      · exact absurd (nI_le (a := v) (b := 9) e (by decide)) q
    have m1 := s_put1 (d := d) B (l := l ++ [32]) (by rw [List.length_append]; show _ + (_ + 1) < _; omega) (x := nI (48 + v / 10)) (y := nI (48 + v / 10)) (i8 _ (by omega))
    have m2 := s_put1 (d := d) B (l := l ++ [32] ++ [nI (48 + v / 10)]) (by rw [List.length_append, List.length_append]; show _ + (_ + 1 + 1) < _; omega) (x := nI (48 + v % 10)) (y := nI (48 + v % 10)) (i8 _ (by omega))
    refine b_X0_putNumber_12 (by decide) (k _ (by rw [List.length_append]; show _ + (_ + 1) ≤ _; omega)) (by rw [hdv]; exact m1) (b_X0_putNumber_23 (by decide) (k _ (by rw [List.length_append, List.length_append]; show _ + (_ + 1 + 1) ≤ _; omega)) (by rw [hmd]; exact m2) ⟨rfl, ?_⟩)
    unfold numL
    rw [if_pos h9, List.append_assoc, List.append_assoc]
theorem tx_take : ∀ t, t < 6 → ∀ i, i < tl t → (ab_byt.getD t []).take (i + 1) = (ab_byt.getD t []).take i ++ [tc t i] ∧ (tc t i).toInt8.toInt32 = tc t i := by decide
theorem tx_all : ∀ t, t < 6 → (ab_byt.getD t []).take (tl t) = ab_byt.getD t [] ∧ (ab_byt.getD t []).length = tl t := by decide
theorem s_putStatement (B : BY h o a m f) {l : List Int32} {t v : Nat} {u : Option Nat} (ht : t < 6) (hv : v ≤ 99) (hu : ∀ x, u = some x → x ≤ 99) (hm : m + l.length + 17 ≤ 400) : MSE m_X0_putStatement (d + 4) [.ref o, .retAddr t, .int (nI v), .int (iO u)] (bL h o a m f l) none (bL h o a m f (l ++ stL t v u)) := by
  have k := fun (l' : List Int32) (q : m + l'.length ≤ 400) => (B.toL (l := l') q).1
  have htl := tl_lt ht
  obtain ⟨ta, tb⟩ := tx_all t ht
  refine e_X0_putStatement (b_X0_putStatement_0 ?_)
  have key := up_all (n := tl t) (T := fun i => a_X0_putStatement_3 (d + 4) 0 0 o t (nI v) (iO u) (nI i) (bL h o a m f (l ++ (ab_byt.getD t []).take i)) (rV (bL h o a m f (l ++ stL t v u)))) (fun i hi ih => ?_) ?_
  · rw [List.take_zero, List.append_nil] at key; exact key
  · obtain ⟨e1, e2⟩ := tx_take t ht i hi
    have hlen : ((ab_byt.getD t []).take i).length ≤ 9 := by rw [List.length_take]; omega
    have m1 := s_put1 (d := d + 3) B (l := l ++ (ab_byt.getD t []).take i) (by rw [List.length_append]; omega) e2
    rw [List.append_assoc, ← e1] at m1
    refine b_X0_putStatement_3 ht ht (s_strlen ht) (fun q => absurd q (nI_ge hi (by omega))) (fun _ => b_X0_putStatement_12 ht ht (s_charAt ht hi) (k _ (by rw [List.length_append]; omega)) m1 ?_)
    rw [nI_1]; exact ih
  · rw [ta]
    have n1 := numL_le (v := v)
    have m1 := s_putNumber (d := d + 2) B (l := l ++ ab_byt.getD t []) hv (by rw [List.length_append]; omega)
    refine b_X0_putStatement_3 ht ht (s_strlen ht) (fun _ => ?_) (fun q => absurd (nI_le (Nat.le_refl (tl t)) (by omega)) q)
    cases u with
    | none =>
      have m3 := s_put1 (d := d + 3) B (l := l ++ ab_byt.getD t [] ++ numL v) (by rw [List.length_append, List.length_append]; omega) (x := 59) (y := 59) (by decide)
      refine b_X0_putStatement_28 (k _ (by rw [List.length_append]; omega)) m1 (fun _ => b_X0_putStatement_43 (k _ (by rw [List.length_append, List.length_append]; omega)) m3 ⟨rfl, ?_⟩) (fun q => absurd rfl q)
      unfold stL
      rw [List.append_assoc, List.append_assoc]; rfl
    | some x =>
      have hx := hu x rfl
      have n2 := numL_le (v := x)
      have m2 := s_putNumber (d := d + 2) B (l := l ++ ab_byt.getD t [] ++ numL v) hx (by rw [List.length_append, List.length_append]; omega)
      have m3 := s_put1 (d := d + 3) B (l := l ++ ab_byt.getD t [] ++ numL v ++ numL x) (by rw [List.length_append, List.length_append, List.length_append]; omega) (x := 59) (y := 59) (by decide)
      refine b_X0_putStatement_28 (k _ (by rw [List.length_append]; omega)) m1 (fun q => absurd ((iO_none (o := some x) (fun k' q4 => by cases q4; omega)).mp q) (by simp)) (fun _ => b_X0_putStatement_38 (k _ (by rw [List.length_append, List.length_append]; omega)) m2 (b_X0_putStatement_43 (k _ (by rw [List.length_append, List.length_append, List.length_append]; omega)) m3 ⟨rfl, ?_⟩))
      unfold stL
      rw [List.append_assoc, List.append_assoc, List.append_assoc]
end
/-! the text of a forest -/
def weB (g : Nat → Nat) (a : Nat) : Nat → List Int32
  | 0 => []
  | k + 1 => weB g a k ++ (if (g a).testBit (a + 1 + k) = true then stL 1 a (some (a + 1 + k)) else [])
def weA (g : Nat → Nat) (n : Nat) : Nat → List Int32
  | 0 => []
  | k + 1 => weA g n k ++ weB g k (n - (k + 1))
def wwA (w : Nat → Nat) : Nat → List Int32
  | 0 => []
  | k + 1 => wwA w k ++ (if w k = 1 then [] else stL 5 k (some (w k)))
def wtL (g w : Nat → Nat) (n : Nat) : List Int32 := stL 0 n none ++ weA g n n ++ wwA w n
theorem weB_le {g : Nat → Nat} {a : Nat} : ∀ j k, (weB g a k).length ≤ (weB g a (k + j)).length
  | 0, k => Nat.le_refl _
  | j + 1, k => by
    have := weB_le (g := g) (a := a) j k
    show _ ≤ (weB g a (k + j) ++ _).length
    rw [List.length_append]; omega
theorem weA_le {g : Nat → Nat} {n : Nat} : ∀ j k, (weA g n k).length ≤ (weA g n (k + j)).length
  | 0, k => Nat.le_refl _
  | j + 1, k => by
    have := weA_le (g := g) (n := n) j k
    show _ ≤ (weA g n (k + j) ++ _).length
    rw [List.length_append]; omega
theorem wwA_le {w : Nat → Nat} : ∀ j k, (wwA w k).length ≤ (wwA w (k + j)).length
  | 0, k => Nat.le_refl _
  | j + 1, k => by
    have := wwA_le (w := w) j k
    show _ ≤ (wwA w (k + j) ++ _).length
    rw [List.length_append]; omega
section
variable {d n m : Nat} {c : Nat → List Value} {g w : Nat → Nat} {f : Nat → Int32}
theorem t_writeText (N : NB c n g w) (B : OB c m f) (hw : ∀ i, w i ≤ 99) (hlen : (wtL g w n).length ≤ 383) : MSE m_X9_writeText (d + 5) [.ref 0] (hp c) (some (.int (nI (wtL g w n).length))) (hp (cO c f (wtL g w n))) := by
  have hn := N.le
  have m0 := s_shorten (d := d + 4) B.B (Nat.zero_le m)
  rw [hp_set (by decide) (by decide)] at m0
  have N1 := N.off (i := 9) (v := [.ref 10, .int (nI 0)]) (by decide)
  have hL := fun (l : List Int32) => B.toL (l := l)
  have hT : (stL 0 n none).length + (weA g n n).length + (wwA w n).length ≤ 383 := by
    have := hlen
    unfold wtL at this
    rw [List.length_append, List.length_append] at this; exact this
  have m1 := s_putStatement (d := d) B.base.B (l := []) (t := 0) (v := n) (u := none) (by decide) (by omega) (fun x q => by cases q) (by show 0 + 0 + 17 ≤ 400; decide)
  rw [B.base.B.bL0, List.nil_append, hL] at m1
  refine e_X9_writeText (b_X9_writeText_0 (x11 := nI n) N.O rfl B.B.1 m0 N1.O rfl N1.O rfl N1.F.1 rfl B.base.B.1 m1 ?_)
  -- edges
  have edges := up_all (n := n) (T := fun k => a_X9_writeText_29 (d + 5) 0 0 0 (nI k) (hp (cO c f (stL 0 n none ++ weA g n k))) (rI (nI (wtL g w n).length) (hp (cO c f (wtL g w n))))) (fun k hk ih => ?_) ?_
  · have e : stL 0 n none ++ weA g n 0 = stL 0 n none := List.append_nil _
    rw [e] at edges; exact edges
  · have hA : (weA g n (k + 1)).length ≤ (weA g n n).length := by
      have := weA_le (g := g) (n := n) (n - (k + 1)) (k + 1)
      rw [show k + 1 + (n - (k + 1)) = n by omega] at this; exact this
    have hA2 : (weA g n (k + 1)).length = (weA g n k).length + (weB g k (n - (k + 1))).length := by
      show (weA g n k ++ _).length = _
      rw [List.length_append]
    refine b_X9_writeText_29 N.out.O rfl N.out.F.1 rfl (fun q => absurd q (nI_ge hk (by omega))) (fun _ => b_X9_writeText_40 ?_)
    rw [nI_1]
    have inner := up_all (n := n - (k + 1)) (T := fun j => a_X9_writeText_44 (d + 5) 0 0 0 (nI k) (nI (k + 1 + j)) (hp (cO c f (stL 0 n none ++ weA g n k ++ weB g k j))) (rI (nI (wtL g w n).length) (hp (cO c f (wtL g w n))))) (fun j hj ih2 => ?_) ?_
    · have e : stL 0 n none ++ weA g n k ++ weB g k 0 = stL 0 n none ++ weA g n k := List.append_nil _
      rw [e] at inner; exact inner
    · have hB : (weB g k (j + 1)).length ≤ (weB g k (n - (k + 1))).length := by
        have := weB_le (g := g) (a := k) (n - (k + 1) - (j + 1)) (j + 1)
        rw [show j + 1 + (n - (k + 1) - (j + 1)) = n - (k + 1) by omega] at this; exact this
      refine b_X9_writeText_44 N.out.O rfl N.out.F.1 rfl (fun q => absurd q (nI_ge (show k + 1 + j < n by omega) (by omega))) (fun _ => b_X9_writeText_55 N.out.O rfl N.out.F.1 (s_hasEdge N.out.F (by omega) (by omega)) (fun q => b_X9_writeText_79 ?_) (fun q => ?_))
      · rw [nI_1]
        have e : weB g k (j + 1) = weB g k j := by
          show weB g k j ++ (if _ then _ else _) = _
          rw [if_neg (show ¬ (g k).testBit (k + 1 + j) = true by rw [h01.mp q]; decide), List.append_nil]
        rw [e] at ih2; exact ih2
      · have e : weB g k (j + 1) = weB g k j ++ stL 1 k (some (k + 1 + j)) := by
          show weB g k j ++ (if _ then _ else _) = _
          rw [if_pos (tb_of q)]
        have hB2 : (weB g k (j + 1)).length = (weB g k j).length + (stL 1 k (some (k + 1 + j))).length := by rw [e, List.length_append]
        have m2 := s_putStatement (d := d) B.base.B (l := stL 0 n none ++ weA g n k ++ weB g k j) (t := 1) (v := k) (u := some (k + 1 + j)) (by decide) (by omega) (fun x q => by cases q; omega) (by rw [List.length_append, List.length_append]; omega)
        rw [hL, hL] at m2
        refine b_X9_writeText_67 N.out.O rfl OB.h9 m2 (b_X9_writeText_79 ?_)
        rw [nI_1]
        rw [e, ← List.append_assoc] at ih2; exact ih2
    · rw [show k + 1 + (n - (k + 1)) = n by omega]
      refine b_X9_writeText_44 N.out.O rfl N.out.F.1 rfl (fun _ => b_X9_writeText_85 ?_) (fun q => absurd (nI_le (Nat.le_refl n) (by omega)) q)
      rw [nI_1, List.append_assoc]
      exact ih
  · refine b_X9_writeText_29 N.out.O rfl N.out.F.1 rfl (fun _ => b_X9_writeText_91 ?_) (fun q => absurd (nI_le (Nat.le_refl n) (by omega)) q)
    have weights := up_all (n := n) (T := fun k => a_X9_writeText_93 (d + 5) 0 0 0 (nI k) (hp (cO c f (stL 0 n none ++ weA g n n ++ wwA w k))) (rI (nI (wtL g w n).length) (hp (cO c f (wtL g w n))))) (fun k hk ih => ?_) ?_
    · have e : stL 0 n none ++ weA g n n ++ wwA w 0 = stL 0 n none ++ weA g n n := List.append_nil _
      rw [e] at weights; exact weights
    · have hA : (wwA w (k + 1)).length ≤ (wwA w n).length := by
        have := wwA_le (w := w) (n - (k + 1)) (k + 1)
        rw [show k + 1 + (n - (k + 1)) = n by omega] at this; exact this
      have hwk := hw k
      refine b_X9_writeText_93 N.out.O rfl N.out.F.1 rfl (fun q => absurd q (nI_ge hk (by omega))) (fun _ => b_X9_writeText_104 N.out.O rfl N.out.F.1 (s_weightOf N.out.F hk) (fun q => b_X9_writeText_135 ?_) (fun q => ?_))
      · rw [nI_1]
        have e : wwA w (k + 1) = wwA w k := by
          show wwA w k ++ (if _ then _ else _) = _
          rw [if_pos ((i_eq (a := w k) (b := 1) (by omega) (by decide)).mp q), List.append_nil]
        rw [e] at ih; exact ih
      · have e : wwA w (k + 1) = wwA w k ++ stL 5 k (some (w k)) := by
          show wwA w k ++ (if _ then _ else _) = _
          rw [if_neg (fun e => q (by rw [e]; rfl))]
        have hB2 : (wwA w (k + 1)).length = (wwA w k).length + (stL 5 k (some (w k))).length := by rw [e, List.length_append]
        have m2 := s_putStatement (d := d) B.base.B (l := stL 0 n none ++ weA g n n ++ wwA w k) (t := 5) (v := k) (u := some (w k)) (by decide) (by omega) (fun x q => by cases q; exact hwk) (by rw [List.length_append, List.length_append]; omega)
        rw [hL, hL] at m2
        refine b_X9_writeText_116 N.out.O rfl N.out.O rfl N.out.F.1 (s_weightOf N.out.F hk) OB.h9 m2 (b_X9_writeText_135 ?_)
        rw [nI_1]
        rw [e, ← List.append_assoc] at ih; exact ih
    · exact b_X9_writeText_93 N.out.O rfl N.out.F.1 rfl (fun _ => b_X9_writeText_141 N.out.O rfl OB.h9 rfl ⟨rfl, rfl⟩) (fun q => absurd (nI_le (Nat.le_refl n) (by omega)) q)
end
