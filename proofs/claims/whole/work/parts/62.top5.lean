section
variable {d n k m nx ch kp : Nat} {c : Nat → List Value} {g w q : Nat → Nat} {f : Nat → Int32} {V : Nat → Nat} {W : Nat → Nat → Int32} {a : Nat → Int32}
/-! snapshots -/
theorem t_keep (N : NB c n g w) (h1 : c 55 = paL nx ch kp) (hk : kp < 8) (h2 : c 65 = snL) {s : Nat} (hs : s < 3) (h3 : c (66 + s) = ar 20 (fun j => nI (q j))) : MSE m_X9_keep (d + 3) [.ref 0, .int (nI s)] (hp c) (some (.int (nI (if kp.testBit s = true then 1 else 0)))) (hp (up1 (up1 c (66 + s) (ar 20 (fun i => nI (sv g w i)))) 55 (paL nx ch (kp ||| 2 ^ s)))) := by
  have H := hp_is (c := c) 55 5 h1 (by decide) (by decide)
  exact e_X9_keep (b_X9_keep_0 (s_needSnapshot hs) N.O rfl H (s_hasSnapshot h1 hk hs) N.O rfl N.O rfl H (s_keepSnapshot N.F h1 h2 hs h3) bl01 ⟨rfl, rfl⟩)
theorem t_keepX {x : Int32} (hx : x < 0 ∨ ¬ x < 3) : MSX m_X9_keep (d + 3) [.ref 0, .int x] (hp c) 2 (hp c) :=
  e_X9_keep (bx_X9_keep_0_1 (s_needSnapshotX hx) (st_out rfl ⟨rfl, rfl⟩))
theorem t_restoreX {x : Int32} (hx : x < 0 ∨ ¬ x < 3) : MSX m_X9_restore (d + 3) [.ref 0, .int x] (hp c) 2 (hp c) :=
  e_X9_restore (bx_X9_restore_0_1 (s_needSnapshotX hx) (st_out rfl ⟨rfl, rfl⟩))
theorem acc_set {i : Nat} (hi : i < 10) {x : Int32} : (ar 10 a).set (nI i).toNatClampNeg (.int x) = ar 10 (up1 a i x) := by rw [cl_nI (by omega), ar_set]
theorem acc_at {i : Nat} (hi : i < 10) : (ar 10 a)[(nI i).toNatClampNeg]? = some (.int (a i)) := by rw [cl_nI (by omega)]; exact ar_at _ hi
theorem acc_ln {i : Nat} (hi : i < 10) : (nI i).toNatClampNeg < (ar 10 a).length := by rw [cl_nI (by omega), ar_len]; exact hi
/-- an account one more -/
def cA (c : Nat → List Value) (a : Nat → Int32) (i : Nat) : Nat → List Value := up1 c 69 (ar 10 (up1 a i (a i + 1)))
theorem acc_hp {i : Nat} (hi : i < 10) : (hp c).set 69 (100, (ar 10 a).set (nI i).toNatClampNeg (.int (a i + 1))) = hp (cA c a i) := by
  rw [acc_set hi, hp_set (by decide) (by decide)]; rfl
theorem t_restore0 (N : NB c n g w) (A : AB c a) (h1 : c 55 = paL nx ch kp) (hk : kp < 8) {s : Nat} (hs : s < 3) (hb : kp.testBit s = false) : MSE m_X9_restore (d + 4) [.ref 0, .int (nI s)] (hp c) (some (.int 0)) (hp (cA c a 9)) := by
  have H := hp_is (c := c) 55 5 h1 (by decide) (by decide)
  have m1 := s_hasSnapshot (d := d + 2) h1 hk hs
  rw [hb] at m1
  exact e_X9_restore (b_X9_restore_0 (s_needSnapshot hs) N.O rfl H m1 (fun q => absurd rfl q) (fun _ => b_X9_restore_15 N.O rfl A.H (by decide) (acc_at (i := 9) (by decide)) A.H (by decide) (acc_ln (i := 9) (by decide)) ⟨rfl, acc_hp (i := 9) (by decide)⟩))
/-- what is recorded: the row nx, the object 55 -/
def cR (c : Nat → List Value) (nx ch kp : Nat) (g w : Nat → Nat) : Nat → List Value := up1 (up1 c (57 + nx) (ar 20 (fun i => nI (sv g w i)))) 55 (paL ((nx + 1) % 8) (min (ch + 1) 8) kp)
theorem cR_ne (hnx : nx < 8) {i : Nat} (h : i < 55 ∨ i = 56 ∨ 64 < i) : cR c nx ch kp g w i = c i := by
  unfold cR
  rw [up1_ne _ _ (by omega), up1_ne _ _ (by omega)]
theorem NB.rec (N : NB c n g w) (hnx : nx < 8) {g' w' : Nat → Nat} : NB (cR c nx ch kp g' w') n g w :=
  ⟨by rw [cR_ne hnx (by omega)]; exact N.1, by rw [cR_ne hnx (by omega)]; exact N.2.1, by rw [cR_ne hnx (by omega)]; exact N.2.2.1, by rw [cR_ne hnx (by omega)]; exact N.2.2.2.1, N.2.2.2.2⟩
/-- the ring: ready to record -/
def RB5 (c : Nat → List Value) (nx ch kp : Nat) : Prop := c 55 = paL nx ch kp ∧ c 56 = rgL ∧ (∃ q : Nat → Nat, c (57 + nx) = ar 20 (fun j => nI (q j))) ∧ nx < 8 ∧ ch ≤ 8
theorem t_rec (N : NB c n g w) (R : RB5 c nx ch kp) : MSE m_X5_record (d + 1) [.ref 55, .ref 11] (hp c) (some (.ref (57 + nx))) (hp (cR c nx ch kp g w)) := by
  obtain ⟨r1, r2, ⟨q, r3⟩, r4, r5⟩ := R
  exact s_record N.F r1 r2 r3 r4 r5
theorem RB5.H (R : RB5 c nx ch kp) : (hp c)[55]? = some (5, paL nx ch kp) := hp_is 55 5 R.1 (by decide) (by decide)
theorem t_restore {g2 w2 : Nat → Nat} (N : NB c n g w) (R : RB5 c nx ch kp) (hk : kp < 8) (h2 : c 65 = snL) {s : Nat} (hs : s < 3) (hb : kp.testBit s = true) (h3 : c (66 + s) = ar 20 (fun j => nI (sv g2 w2 j))) (hg2 : ∀ i, g2 i < 1024) : MSE m_X9_restore (d + 4) [.ref 0, .int (nI s)] (hp c) (some (.int 1)) (hp (up1 (up1 (cR c nx ch kp g w) 12 (ar 10 (fun i => nI (g2 i)))) 13 (ar 10 (fun i => nI (w2 i))))) := by
  have m1 := s_hasSnapshot (d := d + 2) R.1 hk hs
  rw [hb] at m1
  have hnx := R.2.2.2.1
  have e55 : cR c nx ch kp g w 55 = paL ((nx + 1) % 8) (min (ch + 1) 8) kp := up1_same _ _ _
  exact e_X9_restore (b_X9_restore_0 (s_needSnapshot hs) N.O rfl R.H m1 (fun _ => b_X9_restore_28 N.O rfl N.O rfl R.H (t_rec N R) (N.rec hnx).O rfl (N.rec hnx).O rfl (hp_is 55 5 e55 (by decide) (by decide)) (s_bringSnapshot (N.rec hnx).F e55 ((cR_ne hnx (by omega)).trans h2) hs hk hb ((cR_ne hnx (by omega)).trans h3) hg2) ⟨rfl, rfl⟩) (fun q => absurd q (by decide)))
theorem t_undo0 (N : NB c n g w) (h1 : c 55 = paL nx 0 kp) : MSE m_X9_undo (d + 2) [.ref 0] (hp c) (some (.int (-1))) (hp c) :=
  e_X9_undo (b_X9_undo_0 N.O rfl N.O rfl (hp_is 55 5 h1 (by decide) (by decide)) (s_takeBack0 h1) (fun _ => b_X9_undo_24 (b_X9_undo_25 ⟨rfl, rfl⟩)) (fun q => absurd rfl q))
theorem t_undo {g2 w2 : Nat → Nat} (N : NB c n g w) (h1 : c 55 = paL nx (ch + 1) kp) (h2 : c 56 = rgL) (hnx : nx < 8) (hch : ch < 8) (h3 : c (57 + (nx + 7) % 8) = ar 20 (fun j => nI (sv g2 w2 j))) (hg2 : ∀ i, g2 i < 1024) : MSE m_X9_undo (d + 2) [.ref 0] (hp c) (some (.int (nI ch))) (hp (up1 (up1 (up1 c 55 (paL ((nx + 7) % 8) ch kp)) 12 (ar 10 (fun i => nI (g2 i)))) 13 (ar 10 (fun i => nI (w2 i))))) := by
  have h0 := N.1
  refine e_X9_undo (b_X9_undo_0 N.O rfl N.O rfl (hp_is 55 5 h1 (by decide) (by decide)) (s_takeBack N.F h1 h2 hnx hch h3 hg2) (fun q => absurd q (by decide)) (fun _ => b_X9_undo_14 (hp_is 0 9 (v := x0L) ?_ (by decide) (by decide)) rfl (hp_is 55 5 (v := paL ((nx + 7) % 8) ch kp) ?_ (by decide) (by decide)) rfl (b_X9_undo_25 ⟨rfl, rfl⟩)))
  · rw [up1_ne _ _ (by decide), up1_ne _ _ (by decide), up1_ne _ _ (by decide)]; exact h0
  · rw [up1_ne _ _ (by decide), up1_ne _ _ (by decide), up1_same]
/-! changes -/
theorem s_reasonLink (N : NB c n g w) {u v : Nat} (hu : u < n) (hv : v < n) : MSE m_X9_reasonAgainstLink (d + 3) [.ref 0, .int (nI u), .int (nI v)] (hp c) (some (.int (nI (if u = v then 1 else if (g u).testBit v = true then 2 else if ds g n u v = none then 0 else 3)))) (hp c) := by
  have hn := N.le
  refine e_X9_reasonAgainstLink (b_X9_reasonAgainstLink_0 (fun q => b_X9_reasonAgainstLink_7 N.O rfl N.F.1 (s_hasEdge N.F (by omega) hv) (fun q2 => b_X9_reasonAgainstLink_21 N.O rfl N.F.1 (s_steps N.F (by omega) (by omega)) (fun q3 => b_X9_reasonAgainstLink_38 (b_X9_reasonAgainstLink_39 ⟨?_, rfl⟩)) (fun q3 => b_X9_reasonAgainstLink_34 (b_X9_reasonAgainstLink_39 ⟨?_, rfl⟩))) (fun q2 => b_X9_reasonAgainstLink_19 ⟨?_, rfl⟩)) (fun q => b_X9_reasonAgainstLink_5 ⟨?_, rfl⟩))
  · have e1 : ¬ u = v := fun e => q (by rw [e])
    have e2 : ¬ (g u).testBit v = true := by rw [h01.mp q2]; decide
    have e3 : ¬ ds g n u v = none := fun e => q3 (by rw [e]; rfl)
    rw [if_neg e1, if_neg e2, if_neg e3]; rfl
  · have e1 : ¬ u = v := fun e => q (by rw [e])
    have e2 : ¬ (g u).testBit v = true := by rw [h01.mp q2]; decide
    have e3 : ds g n u v = none := (iO_none (fun k' q => by have := ds_lt q; omega)).mp q3
    rw [if_neg e1, if_neg e2, if_pos e3]; rfl
  · have e1 : ¬ u = v := fun e => q (by rw [e])
    rw [if_neg e1, if_pos (tb_of q2)]; rfl
  · rw [if_pos ((i_eq (by omega) (by omega)).mp q)]; rfl
theorem t_linkX1 (N : NB c n g w) {x y : Int32} (hx : ∀ v, v < n → x ≠ nI v) : MSX m_X9_link (d + 4) [.ref 0, .int x, .int y] (hp c) 1 (hp c) :=
  e_X9_link (bx_X9_link_0_2 N.O (s_needVertexX N hx) (st_out rfl ⟨rfl, rfl⟩))
theorem t_linkX2 (N : NB c n g w) {u : Nat} {y : Int32} (hu : u < n) (hy : ∀ v, v < n → y ≠ nI v) : MSX m_X9_link (d + 4) [.ref 0, .int (nI u), .int y] (hp c) 1 (hp c) :=
  e_X9_link (bx_X9_link_0_7 N.O (s_needVertex N hu) N.O (s_needVertexX N hy) (st_out rfl ⟨rfl, rfl⟩))
theorem t_link0 (N : NB c n g w) (A : AB c a) {u v r : Nat} (hu : u < n) (hv : v < n) (hr : (if u = v then 1 else if (g u).testBit v = true then 2 else if ds g n u v = none then 0 else 3) = r) (h0 : r ≠ 0) : MSE m_X9_link (d + 4) [.ref 0, .int (nI u), .int (nI v)] (hp c) (some (.int (nI r))) (hp (cA c a 5)) := by
  have m1 := s_reasonLink (d := d) N hu hv
  rw [hr] at m1
  have hr3 : r ≤ 3 := by rw [← hr]; split; · decide
                         split; · decide
                         split <;> decide
  exact e_X9_link (b_X9_link_0 N.O (s_needVertex N hu) N.O (s_needVertex N hv) N.O m1 (fun q => absurd ((i_eq0 (by omega)).mp q) h0) (fun _ => b_X9_link_21 N.O rfl A.H (by decide) (acc_at (i := 5) (by decide)) A.H (by decide) (acc_ln (i := 5) (by decide)) ⟨rfl, acc_hp (i := 5) (by decide)⟩))
theorem tx_link (N : NB c n g w) (R : RB5 c nx ch kp) (A : AB c a) {u v : Nat} (hu : u < n) (hv : v < n) (huv : u ≠ v) (h1 : (g u).testBit v = false) (h2 : ds g n u v = none) : MSE m_X9_link (d + 4) [.ref 0, .int (nI u), .int (nI v)] (hp c) (some (.int 0)) (hp (cA (up1 (cR c nx ch kp g w) 12 (ar 10 (fun i => nI (jn g u v i)))) a 0)) := by
  have m1 := s_reasonLink (d := d) N hu hv
  rw [if_neg huv, if_neg (by rw [h1]; decide), if_pos h2] at m1
  have hnx := R.2.2.2.1
  have N2 := N.rec hnx (ch := ch) (kp := kp) (g' := g) (w' := w)
  have m2 := s_join (d := d + 2) N2.F hu hv huv
  rw [hp_set (by decide) (by decide)] at m2
  have A2 : AB (up1 (cR c nx ch kp g w) 12 (ar 10 (fun i => nI (jn g u v i)))) a := (up1_ne _ _ (by decide)).trans ((cR_ne hnx (by omega)).trans A)
  have O3 : (hp (up1 (cR c nx ch kp g w) 12 (ar 10 (fun i => nI (jn g u v i)))))[0]? = some (9, x0L) := hp_is 0 9 ((up1_ne _ _ (by decide)).trans N2.1) (by decide) (by decide)
  exact e_X9_link (b_X9_link_0 N.O (s_needVertex N hu) N.O (s_needVertex N hv) N.O m1 (fun _ => b_X9_link_33 N.O rfl N.O rfl R.H (t_rec N R) N2.O rfl N2.F.1 m2 O3 rfl A2.H (by decide) (acc_at (i := 0) (by decide)) A2.H (by decide) (acc_ln (i := 0) (by decide)) ⟨rfl, acc_hp (i := 0) (by decide)⟩) (fun q => absurd rfl q))
theorem t_cutX1 (N : NB c n g w) {x y : Int32} (hx : ∀ v, v < n → x ≠ nI v) : MSX m_X9_cut (d + 4) [.ref 0, .int x, .int y] (hp c) 1 (hp c) :=
  e_X9_cut (bx_X9_cut_0_2 N.O (s_needVertexX N hx) (st_out rfl ⟨rfl, rfl⟩))
theorem t_cutX2 (N : NB c n g w) {u : Nat} {y : Int32} (hu : u < n) (hy : ∀ v, v < n → y ≠ nI v) : MSX m_X9_cut (d + 4) [.ref 0, .int (nI u), .int y] (hp c) 1 (hp c) :=
  e_X9_cut (bx_X9_cut_0_7 N.O (s_needVertex N hu) N.O (s_needVertexX N hy) (st_out rfl ⟨rfl, rfl⟩))
theorem t_cut0 (N : NB c n g w) (A : AB c a) {u v : Nat} (hu : u < n) (hv : v < n) (h1 : (g u).testBit v = false) : MSE m_X9_cut (d + 4) [.ref 0, .int (nI u), .int (nI v)] (hp c) (some (.int 0)) (hp (cA c a 6)) := by
  have hn := N.le
  have m1 := s_hasEdge (d := d + 2) N.F (show u < 10 by omega) hv
  rw [h1] at m1
  exact e_X9_cut (b_X9_cut_0 N.O (s_needVertex N hu) N.O (s_needVertex N hv) N.O rfl N.F.1 m1 (fun q => absurd rfl q) (fun _ => b_X9_cut_22 N.O rfl A.H (by decide) (acc_at (i := 6) (by decide)) A.H (by decide) (acc_ln (i := 6) (by decide)) ⟨rfl, acc_hp (i := 6) (by decide)⟩))
theorem t_cut (N : NB c n g w) (R : RB5 c nx ch kp) (A : AB c a) {u v : Nat} (hu : u < n) (hv : v < n) (h1 : (g u).testBit v = true) : MSE m_X9_cut (d + 4) [.ref 0, .int (nI u), .int (nI v)] (hp c) (some (.int 1)) (hp (cA (up1 (cR c nx ch kp g w) 12 (ar 10 (fun i => nI (pt g u v i)))) a 1)) := by
  have hn := N.le
  have m1 := s_hasEdge (d := d + 2) N.F (show u < 10 by omega) hv
  rw [h1] at m1
  have hnx := R.2.2.2.1
  have N2 := N.rec hnx (ch := ch) (kp := kp) (g' := g) (w' := w)
  have m2 := s_part (d := d + 2) N2.F hu hv
  rw [hp_set (by decide) (by decide)] at m2
  have A2 : AB (up1 (cR c nx ch kp g w) 12 (ar 10 (fun i => nI (pt g u v i)))) a := (up1_ne _ _ (by decide)).trans ((cR_ne hnx (by omega)).trans A)
  have O3 : (hp (up1 (cR c nx ch kp g w) 12 (ar 10 (fun i => nI (pt g u v i)))))[0]? = some (9, x0L) := hp_is 0 9 ((up1_ne _ _ (by decide)).trans N2.1) (by decide) (by decide)
  exact e_X9_cut (b_X9_cut_0 N.O (s_needVertex N hu) N.O (s_needVertex N hv) N.O rfl N.F.1 m1 (fun _ => b_X9_cut_35 N.O rfl N.O rfl R.H (t_rec N R) N2.O rfl N2.F.1 m2 O3 rfl A2.H (by decide) (acc_at (i := 1) (by decide)) A2.H (by decide) (acc_ln (i := 1) (by decide)) ⟨rfl, acc_hp (i := 1) (by decide)⟩) (fun q => absurd q (by decide)))
theorem s_reasonRegraft (N : NB c n g w) {u v z : Nat} (hu : u < n) (hv : v < n) (hz : z < n) : MSE m_X9_reasonAgainstRegraft (d + 3) [.ref 0, .int (nI u), .int (nI v), .int (nI z)] (hp c) (some (.int (nI (if (g u).testBit v = true then (if (rc g n (df (al n) (2 ^ v)) u).testBit z = true then 2 else 0) else 1)))) (hp c) := by
  have hn := N.le
  have hrc := rc_lt (n := n) (A := df (al n) (2 ^ v)) N.F.2.2.2.2.2 (show u < 10 by omega)
  refine e_X9_reasonAgainstRegraft (b_X9_reasonAgainstRegraft_0 N.O rfl N.F.1 (s_hasEdge N.F (by omega) hv) (fun q => b_X9_reasonAgainstRegraft_14 N.O rfl N.O rfl N.F.1 (s_all N.F) (s_without (by omega)) N.F.1 (s_reachable N.F (by omega)) (s_holds (by omega) (by omega)) (fun q2 => b_X9_reasonAgainstRegraft_44 (b_X9_reasonAgainstRegraft_45 ⟨?_, rfl⟩)) (fun q2 => b_X9_reasonAgainstRegraft_40 (b_X9_reasonAgainstRegraft_45 ⟨?_, rfl⟩))) (fun q => b_X9_reasonAgainstRegraft_12 ⟨?_, rfl⟩))
  · rw [if_pos (tb_of q), if_neg (show ¬ (rc g n (df (al n) (2 ^ v)) u).testBit z = true by rw [h01.mp q2]; decide)]; rfl
  · rw [if_pos (tb_of q), if_pos (tb_of q2)]; rfl
  · rw [if_neg (show ¬ (g u).testBit v = true by rw [h01.mp q]; decide)]; rfl
theorem t_regraftX1 (N : NB c n g w) {x y z : Int32} (hx : ∀ v, v < n → x ≠ nI v) : MSX m_X9_regraft (d + 4) [.ref 0, .int x, .int y, .int z] (hp c) 1 (hp c) :=
  e_X9_regraft (bx_X9_regraft_0_2 N.O (s_needVertexX N hx) (st_out rfl ⟨rfl, rfl⟩))
theorem t_regraftX2 (N : NB c n g w) {u : Nat} {y z : Int32} (hu : u < n) (hy : ∀ v, v < n → y ≠ nI v) : MSX m_X9_regraft (d + 4) [.ref 0, .int (nI u), .int y, .int z] (hp c) 1 (hp c) :=
  e_X9_regraft (bx_X9_regraft_0_7 N.O (s_needVertex N hu) N.O (s_needVertexX N hy) (st_out rfl ⟨rfl, rfl⟩))
theorem t_regraftX3 (N : NB c n g w) {u v : Nat} {z : Int32} (hu : u < n) (hv : v < n) (hz : ∀ v, v < n → z ≠ nI v) : MSX m_X9_regraft (d + 4) [.ref 0, .int (nI u), .int (nI v), .int z] (hp c) 1 (hp c) :=
  e_X9_regraft (bx_X9_regraft_0_12 N.O (s_needVertex N hu) N.O (s_needVertex N hv) N.O (s_needVertexX N hz) (st_out rfl ⟨rfl, rfl⟩))
theorem t_regraft0 (N : NB c n g w) (A : AB c a) {u v z r : Nat} (hu : u < n) (hv : v < n) (hz : z < n) (hr : (if (g u).testBit v = true then (if (rc g n (df (al n) (2 ^ v)) u).testBit z = true then 2 else 0) else 1) = r) (h0 : r ≠ 0) : MSE m_X9_regraft (d + 4) [.ref 0, .int (nI u), .int (nI v), .int (nI z)] (hp c) (some (.int (nI r))) (hp (cA c a 7)) := by
  have m1 := s_reasonRegraft (d := d) N hu hv hz
  rw [hr] at m1
  have hr3 : r ≤ 3 := by rw [← hr]; split
                         · split <;> decide
                         · decide
  exact e_X9_regraft (b_X9_regraft_0 N.O (s_needVertex N hu) N.O (s_needVertex N hv) N.O (s_needVertex N hz) N.O m1 (fun q => absurd ((i_eq0 (by omega)).mp q) h0) (fun _ => b_X9_regraft_29 N.O rfl A.H (by decide) (acc_at (i := 7) (by decide)) A.H (by decide) (acc_ln (i := 7) (by decide)) ⟨rfl, acc_hp (i := 7) (by decide)⟩))
theorem t_regraft (N : NB c n g w) (R : RB5 c nx ch kp) (A : AB c a) {u v z : Nat} (hu : u < n) (hv : v < n) (hz : z < n) (huz : u ≠ z) (h1 : (g u).testBit v = true) (h2 : (rc g n (df (al n) (2 ^ v)) u).testBit z = false) : MSE m_X9_regraft (d + 4) [.ref 0, .int (nI u), .int (nI v), .int (nI z)] (hp c) (some (.int 0)) (hp (cA (up1 (cR c nx ch kp g w) 12 (ar 10 (fun i => nI (jn (pt g u v) u z i)))) a 2)) := by
  have m1 := s_reasonRegraft (d := d) N hu hv hz
  rw [if_pos h1, if_neg (show ¬ (rc g n (df (al n) (2 ^ v)) u).testBit z = true by rw [h2]; decide)] at m1
  have hnx := R.2.2.2.1
  have N2 := N.rec hnx (ch := ch) (kp := kp) (g' := g) (w' := w)
  have m2 := s_part (d := d + 2) N2.F hu hv
  rw [hp_set (by decide) (by decide)] at m2
  have N3 := N2.near (g' := pt g u v) (pt_lt2 N.g2)
  have m3 := s_join (d := d + 2) N3.F hu hz huz
  rw [hp_set (by decide) (by decide), up1_up1] at m3
  have A2 : AB (up1 (cR c nx ch kp g w) 12 (ar 10 (fun i => nI (jn (pt g u v) u z i)))) a := (up1_ne _ _ (by decide)).trans ((cR_ne hnx (by omega)).trans A)
  have O4 : (hp (up1 (cR c nx ch kp g w) 12 (ar 10 (fun i => nI (jn (pt g u v) u z i)))))[0]? = some (9, x0L) := hp_is 0 9 ((up1_ne _ _ (by decide)).trans N2.1) (by decide) (by decide)
  exact e_X9_regraft (b_X9_regraft_0 N.O (s_needVertex N hu) N.O (s_needVertex N hv) N.O (s_needVertex N hz) N.O m1 (fun _ => b_X9_regraft_43 N.O rfl N.O rfl R.H (t_rec N R) N2.O rfl N2.F.1 m2 N3.O rfl N3.F.1 m3 O4 rfl A2.H (by decide) (acc_at (i := 2) (by decide)) A2.H (by decide) (acc_ln (i := 2) (by decide)) ⟨rfl, acc_hp (i := 2) (by decide)⟩) (fun q => absurd rfl q))
theorem t_setWeightX1 (N : NB c n g w) {x y : Int32} (hx : ∀ v, v < n → x ≠ nI v) : MSX m_X9_setWeight (d + 4) [.ref 0, .int x, .int y] (hp c) 1 (hp c) :=
  e_X9_setWeight (bx_X9_setWeight_0_2 N.O (s_needVertexX N hx) (st_out rfl ⟨rfl, rfl⟩))
theorem t_setWeightX2 (N : NB c n g w) {u : Nat} {y : Int32} (hu : u < n) (hy : y < 0 ∨ ¬ y ≤ 99) : MSX m_X9_setWeight (d + 4) [.ref 0, .int (nI u), .int y] (hp c) 2 (hp c) :=
  e_X9_setWeight (b_X9_setWeight_0 N.O (s_needVertex N hu) (fun _ => b_X9_setWeight_15 ⟨rfl, rfl⟩) (fun q1 => b_X9_setWeight_9 (fun q2 => by rcases hy with h | h <;> contradiction) (fun _ => b_X9_setWeight_15 ⟨rfl, rfl⟩)))
theorem t_setWeight (N : NB c n g w) (R : RB5 c nx ch kp) {u x : Nat} (hu : u < n) (hx : x ≤ 99) : MSE m_X9_setWeight (d + 4) [.ref 0, .int (nI u), .int (nI x)] (hp c) (some (.int (nI (w u)))) (hp (up1 (cR c nx ch kp g w) 13 (ar 10 (fun i => nI (up1 w u x i))))) := by
  have hnx := R.2.2.2.1
  have N2 := N.rec hnx (ch := ch) (kp := kp) (g' := g) (w' := w)
  have m2 := s_weigh (d := d + 2) N2.F hu (x := x)
  rw [hp_set (by decide) (by decide)] at m2
  exact e_X9_setWeight (b_X9_setWeight_0 N.O (s_needVertex N hu) (fun q => absurd q (nI_pos (by omega))) (fun _ => b_X9_setWeight_9 (fun _ => b_X9_setWeight_26 N.O rfl N.O rfl R.H (t_rec N R) N2.O rfl N2.F.1 (s_weightOf N2.F hu) N2.O rfl N2.F.1 m2 ⟨rfl, rfl⟩) (fun q => absurd (nI_le (a := x) (b := 99) hx (by decide)) q)))
theorem t_swapX1 (N : NB c n g w) {x y : Int32} (hx : ∀ v, v < n → x ≠ nI v) : MSX m_X9_swap (d + 4) [.ref 0, .int x, .int y] (hp c) 1 (hp c) :=
  e_X9_swap (bx_X9_swap_0_2 N.O (s_needVertexX N hx) (st_out rfl ⟨rfl, rfl⟩))
theorem t_swapX2 (N : NB c n g w) {u : Nat} {y : Int32} (hu : u < n) (hy : ∀ v, v < n → y ≠ nI v) : MSX m_X9_swap (d + 4) [.ref 0, .int (nI u), .int y] (hp c) 1 (hp c) :=
  e_X9_swap (bx_X9_swap_0_7 N.O (s_needVertex N hu) N.O (s_needVertexX N hy) (st_out rfl ⟨rfl, rfl⟩))
theorem cR_row (hnx : nx < 8) : cR c nx ch kp g w (57 + nx) = if nx + 57 = 55 then paL nx ch kp else ar 20 (fun i => nI (sv g w i)) := by
  unfold cR
  by_cases e : 57 + nx = 55
  · omega
  · rw [up1_ne _ _ e, up1_same, if_neg (by omega)]
theorem cR_row2 (hnx : nx < 8) : cR c nx ch kp g w (57 + nx) = ar 20 (fun i => nI (sv g w i)) := by rw [cR_row hnx, if_neg (by omega)]
/-- how many edges of a forest weren't there -/
def fre (g g' : Nat → Nat) (w : Nat → Nat) (n : Nat) : Nat := tsU (fun v => pc (df (g' v) (sv g w v))) n / 2
theorem t_swap (N : NB c n g w) (R : RB5 c nx ch kp) {u v : Nat} (hu : u < n) (hv : v < n) (hx2 : ∀ i, xg g n u v i < 2 ^ n) : MSE m_X9_swap (d + 4) [.ref 0, .int (nI u), .int (nI v)] (hp c) (some (.int (nI (fre g (xg g n u v) w n)))) (hp (up1 (cR c nx ch kp g w) 12 (ar 10 (fun i => nI (xg g n u v i))))) := by
  have hnx := R.2.2.2.1
  have N2 := N.rec hnx (ch := ch) (kp := kp) (g' := g) (w' := w)
  have m2 := s_exchange (d := d + 2) N2.F hu hv
  rw [hp_set (by decide) (by decide)] at m2
  have N3 := N2.near hx2
  have H3 : (hp (up1 (cR c nx ch kp g w) 12 (ar 10 (fun i => nI (xg g n u v i)))))[57 + nx]? = some (100, ar 20 (fun i => nI (sv g w i))) := hp_is (57 + nx) 100 ((up1_ne _ _ (by omega)).trans (cR_row2 hnx)) (by omega) (kd_rg nx hnx)
  exact e_X9_swap (b_X9_swap_0 N.O (s_needVertex N hu) N.O (s_needVertex N hv) N.O rfl N.O rfl R.H (t_rec N R) N2.O rfl N2.F.1 m2 N3.O rfl N3.F.1 (s_edgesNotIn N3.F H3) ⟨rfl, rfl⟩)
/-! pruning -/
theorem t_pruneX {x : Int32} (hx : x < 1 ∨ ¬ x ≤ 9) : MSX m_X9_prune (d + 4) [.ref 0, .int x] (hp c) 2 (hp c) :=
  e_X9_prune (b_X9_prune_0 (fun _ => b_X9_prune_11 ⟨rfl, rfl⟩) (fun q1 => b_X9_prune_5 (fun q2 => by rcases hx with h | h <;> contradiction) (fun _ => b_X9_prune_11 ⟨rfl, rfl⟩)))
theorem t_prune (N : NB c n g w) (R : RB5 c nx ch kp) (A : AB c a) {r : Nat} (h1 : 1 ≤ r) (hr : r ≤ 9) : MSE m_X9_prune (d + 4) [.ref 0, .int (nI r)] (hp c) (some (.int (nI (ed g n) - nI (ed (dlI g n r) n)))) (hp (up1 (up1 (cR c nx ch kp g w) 12 (ar 10 (fun i => nI (dlI g n r i)))) 69 (ar 10 (up1 a 3 (a 3 + nI r))))) := by
  have hnx := R.2.2.2.1
  have N2 := N.rec hnx (ch := ch) (kp := kp) (g' := g) (w' := w)
  have N3 := fun j => N2.near (g' := dlI g n j) (dlI_lt N.g2 j)
  have e0 : up1 (cR c nx ch kp g w) 12 (ar 10 (fun i => nI (dlI g n 0 i))) = cR c nx ch kp g w := by
    funext j
    unfold up1
    by_cases e : j = 12
    · rw [if_pos e, e]; exact N2.2.2.1.symm
    · rw [if_neg e]
  refine e_X9_prune (b_X9_prune_0 (fun q => absurd q (nI_nlt (a := r) (b := 1) h1 (by omega))) (fun _ => b_X9_prune_5 (fun _ => b_X9_prune_22 N.O rfl N.O rfl R.H (t_rec N R) N2.O rfl N2.F.1 (s_edges N2.F) ?_) (fun q => absurd (nI_le (a := r) (b := 9) hr (by decide)) q)))
  have key := up_all (n := r) (T := fun j => a_X9_prune_44 (d + 4) 0 0 0 (nI r) (nI (ed g n)) (nI j) (hp (up1 (cR c nx ch kp g w) 12 (ar 10 (fun i => nI (dlI g n j i))))) (rI (nI (ed g n) - nI (ed (dlI g n r) n)) (hp (up1 (up1 (cR c nx ch kp g w) 12 (ar 10 (fun i => nI (dlI g n r i)))) 69 (ar 10 (up1 a 3 (a 3 + nI r))))))) (fun j hj ih => ?_) ?_
  · rw [e0] at key; exact key
  · have m2 := s_dropLeaves (d := d + 1) (N3 j).F (dlI_lt N.g2 j)
    rw [hp_set (by decide) (by decide), up1_up1] at m2
    refine b_X9_prune_44 (fun q => absurd q (nI_ge hj (by omega))) (fun _ => b_X9_prune_49 (N3 j).O rfl (N3 j).F.1 m2 ?_)
    rw [nI_1]; exact ih
  · have A2 : AB (up1 (cR c nx ch kp g w) 12 (ar 10 (fun i => nI (dlI g n r i)))) a := (up1_ne _ _ (by decide)).trans ((cR_ne hnx (by omega)).trans A)
    have e1 : (hp (up1 (cR c nx ch kp g w) 12 (ar 10 (fun i => nI (dlI g n r i))))).set 69 (100, (ar 10 a).set (3 : Int32).toNatClampNeg (.int (a 3 + nI r))) = hp (up1 (up1 (cR c nx ch kp g w) 12 (ar 10 (fun i => nI (dlI g n r i)))) 69 (ar 10 (up1 a 3 (a 3 + nI r)))) := by
      rw [show (3 : Int32).toNatClampNeg = 3 by decide, ar_set, hp_set (by decide) (by decide)]
    have N4 := (N3 r).off (i := 69) (v := ar 10 (up1 a 3 (a 3 + nI r))) (by decide)
    exact b_X9_prune_44 (fun _ => b_X9_prune_62 (N3 r).O rfl A2.H (by decide) (acc_at (i := 3) (by decide)) A2.H (by decide) (acc_ln (i := 3) (by decide)) (by rw [e1]; exact N4.O) rfl (by rw [e1]; exact N4.F.1) (by rw [e1]; exact s_edges N4.F) ⟨rfl, rfl⟩) (fun q => absurd (nI_le (Nat.le_refl r) (by omega)) q)
/-! trees by ranks -/
theorem t_becomeTree (N : NB c n g w) (R : RB5 c nx ch kp) (A : AB c a) (B : CB c q) {r : Nat} (hr : r < 2147483648) (hq : ∀ i, i < n - 2 → srQ n r q (n - 2) i < n) : MSE m_X9_becomeTree (d + 4) [.ref 0, .int (nI r)] (hp c) (some (.int (nI (fre g (plT (srQ n r q (n - 2)) n) w n)))) (hp (cA (up1 (up1 (cR c nx ch kp g w) 18 (ar 10 (fun i => nI (srQ n r q (n - 2) i)))) 12 (ar 10 (fun i => nI (plT (srQ n r q (n - 2)) n i)))) a 4)) := by
  have hnx := R.2.2.2.1
  have hn := N.le
  have N2 := N.rec hnx (ch := ch) (kp := kp) (g' := g) (w' := w)
  have B2 : CB (cR c nx ch kp g w) q := ⟨(cR_ne hnx (by omega)).trans B.1, (cR_ne hnx (by omega)).trans B.2⟩
  have m2 := s_setRank (d := d + 1) B2.C hn hr
  rw [hp_set (by decide) (by decide)] at m2
  have N3 := N2.off (i := 18) (v := ar 10 (fun i => nI (srQ n r q (n - 2) i))) (by decide)
  have B3 : CB (up1 (cR c nx ch kp g w) 18 (ar 10 (fun i => nI (srQ n r q (n - 2) i)))) (srQ n r q (n - 2)) := ⟨(up1_ne _ _ (by decide)).trans B2.1, up1_same _ _ _⟩
  obtain ⟨po, pu⟩ := pl_ok N.one hn hq
  have m3 := s_plant (d := d + 1) N3.F B3.C (by decide) hq po N.one pu
  rw [hp_set (by decide) (by decide)] at m3
  have N4 := N3.near (plT_lt N.one hn hq)
  have A4 : AB (up1 (up1 (cR c nx ch kp g w) 18 (ar 10 (fun i => nI (srQ n r q (n - 2) i)))) 12 (ar 10 (fun i => nI (plT (srQ n r q (n - 2)) n i)))) a := (up1_ne _ _ (by decide)).trans ((up1_ne _ _ (by decide)).trans ((cR_ne hnx (by omega)).trans A))
  have e5 := acc_hp (c := up1 (up1 (cR c nx ch kp g w) 18 (ar 10 (fun i => nI (srQ n r q (n - 2) i)))) 12 (ar 10 (fun i => nI (plT (srQ n r q (n - 2)) n i)))) (a := a) (i := 4) (by decide)
  have N5 := N4.off (i := 69) (v := ar 10 (up1 a 4 (a 4 + 1))) (by decide)
  have H5 : (hp (cA (up1 (up1 (cR c nx ch kp g w) 18 (ar 10 (fun i => nI (srQ n r q (n - 2) i)))) 12 (ar 10 (fun i => nI (plT (srQ n r q (n - 2)) n i)))) a 4))[57 + nx]? = some (100, ar 20 (fun i => nI (sv g w i))) := hp_is (57 + nx) 100 ((up1_ne _ _ (by omega)).trans ((up1_ne _ _ (by omega)).trans ((up1_ne _ _ (by omega)).trans (cR_row2 hnx)))) (by omega) (kd_rg nx hnx)
  exact e_X9_becomeTree (b_X9_becomeTree_0 (x11 := nI n) N.O rfl N.O rfl R.H (t_rec N R) N2.O rfl N2.O rfl N2.F.1 rfl B2.C.1 m2 N3.O rfl N3.O rfl B3.C.1 m3 N4.O rfl A4.H (by decide) (acc_at (i := 4) (by decide)) A4.H (by decide) (acc_ln (i := 4) (by decide)) (by rw [show (4 : Int32) = nI 4 from rfl, e5]; exact N5.O) rfl (by rw [show (4 : Int32) = nI 4 from rfl, e5]; exact N5.F.1) (by rw [show (4 : Int32) = nI 4 from rfl, e5]; exact s_edgesNotIn N5.F H5) ⟨rfl, rfl⟩)
end
