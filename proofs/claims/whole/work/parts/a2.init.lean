section
variable {sc : Option (List Int32)} {M : ab_M} {d rc rs pc : Nat} {ls : List (Option Value)} {st : List Value} {h0 : ab_H} {ci : Nat} {fs : List Value} {l l2 : ab_H} {x a b : Nat × List Value} {P : ab_O → ab_H → Prop}
/-! an object in the making: at the place h0.length, with what it has made behind it -/
theorem kh_ln : (h0 ++ a :: l).length = h0.length + 1 + l.length := by rw [List.length_append, List.length_cons]; omega
theorem kh_at : (h0 ++ a :: l)[h0.length]? = some a := by rw [List.getElem?_append_right (Nat.le_refl _), Nat.sub_self]; rfl
theorem kh_set : (h0 ++ a :: l).set h0.length x = h0 ++ x :: l := by
  rw [List.set_append_right (h := Nat.le_refl _), Nat.sub_self]; rfl
theorem kh_app : (h0 ++ a :: l) ++ l2 = h0 ++ a :: (l ++ l2) := by rw [List.append_assoc]; rfl
theorem kh_at1 : (h0 ++ a :: b :: l)[h0.length + 1 + 0]? = some b := by rw [List.getElem?_append_right (by omega), show h0.length + 1 + 0 - h0.length = 1 by omega]; rfl
theorem kh_set1 : (h0 ++ a :: b :: l).set (h0.length + 1 + 0) x = h0 ++ a :: x :: l := by
  rw [List.set_append_right (h := by omega), show h0.length + 1 + 0 - h0.length = 1 by omega]; rfl
theorem kh_at2 {b2 : Nat × List Value} : (h0 ++ a :: b :: b2 :: l)[h0.length + 1 + 1]? = some b2 := by rw [List.getElem?_append_right (by omega), show h0.length + 1 + 1 - h0.length = 2 by omega]; rfl
theorem kh_set2 {b2 : Nat × List Value} : (h0 ++ a :: b :: b2 :: l).set (h0.length + 1 + 1) x = h0 ++ a :: b :: x :: l := by
  rw [List.set_append_right (h := by omega), show h0.length + 1 + 1 - h0.length = 2 by omega]; rfl
theorem rep_ar {N : Nat} {v : Int32} : List.replicate N (Value.int v) = ar N (fun _ => v) := by
  apply List.ext_getElem?
  intro i
  unfold ar
  rw [List.getElem?_replicate, List.getElem?_map]
  by_cases h : i < N
  · rw [if_pos h, List.getElem?_range h]; rfl
  · rw [if_neg h, List.getElem?_eq_none (by rw [List.length_range]; omega)]; rfl
theorem c_iast {vs : List Value} {l' : ab_H} {i y : Int32} (hd : decode M.2.1 pc = .ok (.iastore, 1)) (hl : l = (100, vs) :: l') (g0 : ¬ i < 0) (hi : i.toNatClampNeg < vs.length) (kk : SW sc M d rc rs (pc + 1) ls st (h0 ++ a :: (100, vs.set i.toNatClampNeg (.int y)) :: l') P) : SW sc M d rc rs pc ls (.int y :: .int i :: .ref (h0.length + 1 + 0) :: st) (h0 ++ a :: l) P := by
  subst hl
  exact sw_iast hd kh_at1 g0 hi (by rw [kh_set1]; exact kk)
def gr_ (n N K : Nat) : ab_H := (104, (List.range N).map (fun i => .ref (n + 1 + i))) :: List.replicate N (100, ar K (fun _ => 0))
theorem gr_eq {n N K : Nat} : ab_gr n N K = gr_ n N K := by unfold ab_gr gr_; rw [rep_ar]
theorem c_newI {n : Int32} {N k : Nat} (hd : decode M.2.1 pc = .ok (.newarray .int, 2)) (g0 : ¬ n < 0) (hN : n.toNatClampNeg = N) (hb : N * 4 ≤ 536870912) (e : l.length = k) (kk : SW sc M d rc rs (pc + 2) ls (.ref (h0.length + 1 + k) :: st) (h0 ++ (ci, fs) :: (l ++ [(100, ar N (fun _ => 0))])) P) : SW sc M d (rc + 1) (rs + N) pc ls (.int n :: st) (h0 ++ (ci, fs) :: l) P :=
  sw_newI hd aw_int g0 hN hb (by rw [kh_ln, e, kh_app, rep_ar]; exact kk)
theorem c_newB {n : Int32} {N k : Nat} (hd : decode M.2.1 pc = .ok (.newarray .byte, 2)) (g0 : ¬ n < 0) (hN : n.toNatClampNeg = N) (hb : N * 1 ≤ 536870912) (e : l.length = k) (kk : SW sc M d rc rs (pc + 2) ls (.ref (h0.length + 1 + k) :: st) (h0 ++ (ci, fs) :: (l ++ [(101, ar N (fun _ => 0))])) P) : SW sc M d (rc + 1) (rs + N) pc ls (.int n :: st) (h0 ++ (ci, fs) :: l) P :=
  sw_newB hd aw_byte g0 hN hb (by rw [kh_ln, e, kh_app, rep_ar]; exact kk)
theorem c_putF {idx k : Nat} {v : Value} {ty : FieldType} (hd : decode M.2.1 pc = .ok (.putfield idx, 3)) (hi : M.1.name = "<init>") (hL : ab_LP M.1.cls idx ci k true ty) (hk : k < fs.length) (hn : ∀ σ τ, narrow ty (ab_v σ τ v) = ab_v σ τ v ∧ fits ty (ab_v σ τ v) = true) (kk : SW sc M d rc rs (pc + 3) ls st (h0 ++ (ci, fs.set k v) :: l) P) : SW sc M d rc rs pc ls (v :: .ref h0.length :: st) (h0 ++ (ci, fs) :: l) P :=
  sw_putF hd hi hL kh_at hk hn (by rw [kh_set]; exact kk)
theorem c_putf {idx k : Nat} {v : Value} {ty : FieldType} (hd : decode M.2.1 pc = .ok (.putfield idx, 3)) (hL : ab_LP M.1.cls idx ci k false ty) (hk : k < fs.length) (hn : ∀ σ τ, narrow ty (ab_v σ τ v) = ab_v σ τ v ∧ fits ty (ab_v σ τ v) = true) (kk : SW sc M d rc rs (pc + 3) ls st (h0 ++ (ci, fs.set k v) :: l) P) : SW sc M d rc rs pc ls (v :: .ref h0.length :: st) (h0 ++ (ci, fs) :: l) P :=
  sw_putf hd hL kh_at hk hn (by rw [kh_set]; exact kk)
theorem c_grid {idx : Nat} {n k : Int32} {N K j : Nat} (hd : decode M.2.1 pc = .ok (.multianewarray idx 2, 4)) (hcl : Cond.classLink M.1.cls idx "[[I" ∈ ab_big) (hn : ¬ n < 0) (hN : n.toNatClampNeg = N) (hk : ¬ k < 0) (hK : k.toNatClampNeg = K) (b1 : N ≤ 1000) (b2 : K ≤ 1000) (e : l.length = j) (kk : SW sc M d rc rs (pc + 4) ls (.ref (h0.length + 1 + j) :: st) (h0 ++ (ci, fs) :: (l ++ gr_ (h0.length + 1 + j) N K)) P) : SW sc M d (rc + (1 + N)) (rs + (N + N * K)) pc ls (.int k :: .int n :: st) (h0 ++ (ci, fs) :: l) P :=
  sw_grid hd hcl aw_int hn hN hk hK b1 b2 (by rw [kh_ln, e, gr_eq, kh_app]; exact kk)
theorem c_sub {N : ab_M} {idx idx2 cj F mc ms j : Nat} {fj : List Value} {O : Nat → ab_H} (d0 : decode M.2.1 pc = .ok (.new idx, 3)) (d1 : decode M.2.1 (pc + 3) = .ok (.dup, 1)) (d2 : decode M.2.1 (pc + 3 + 1) = .ok (.invokespecial idx2, 3)) (hL : ab_LN M.1.cls idx cj F fj) (hI : ab_LI M.1.cls idx2 N 0) (e : l.length = j) (hm : ∀ hh : ab_H, MSK N d mc ms [.ref hh.length] (hh ++ [(cj, fj)]) (hh ++ O hh.length)) (hst : st = [.ref h0.length])
    (kk : SW sc M (d + 1) rc rs (pc + 3 + 1 + 3) ls (.ref (h0.length + 1 + j) :: st) (h0 ++ (ci, fs) :: (l ++ O (h0.length + 1 + j))) P) : SW sc M (d + 1) (rc + mc + 1) (rs + ms + F) pc ls st (h0 ++ (ci, fs) :: l) P := by
  refine sw_new d0 hL (sw_dup d1 (fun _ _ => rfl) (sw_cI d2 hI (hm (h0 ++ (ci, fs) :: l)) rfl rfl (by rw [hst]; exact Nat.le_of_ble_eq_true rfl) (fun _ _ => by rw [hst]; rfl) rfl ?_))
  rw [kh_ln, e, kh_app]
  exact kk
end

section
variable {d : Nat}
def o_X0 (n : Nat) : ab_H := (0, [.ref (n + 1 + 0), .int 0]) :: ([] ++ [(101, ar 400 (fun _ => 0))])
theorem i_X0 (h0 : ab_H) : MSK m_X0_init d 1 400 [.ref h0.length] (h0 ++ [(0, [.null, .int 0])]) (h0 ++ o_X0 h0.length) := MS.of (by decide +kernel) (Nat.le_of_ble_eq_true rfl) cw_X0_init (by
  show SW none m_X0_init d 1 400 0 [some (.ref h0.length)] [] (h0 ++ (0, [.null, .int 0]) :: []) _
  refine sw_aload_n dX0_init_0 rfl ?_
  refine sw_objInit dX0_init_1 lo_X0_3 (Nat.le_of_ble_eq_true rfl) (fun _ _ => rfl) ?_
  refine sw_aload_n dX0_init_4 rfl ?_
  refine sw_sipush (v := 400) dX0_init_5 (by decide) ?_
  refine c_newB (rc := 0) (rs := 0) (N := 400) (k := 0) dX0_init_8 (by decide) (by decide) (by decide) rfl ?_
  refine c_putF dX0_init_10 rfl lp_X0_9 (Nat.le_of_ble_eq_true rfl) (fun _ _ => ⟨rfl, rfl⟩) ?_
  exact sw_ret (v := none) dX0_init_13 rt_v ⟨rfl, rfl⟩)
def o_X1 (n : Nat) : ab_H := (1, [.ref (n + 1 + 0)]) :: ([] ++ [(100, ar 10 (fun _ => 0))])
theorem i_X1 (h0 : ab_H) : MSK m_X1_init d 1 10 [.ref h0.length] (h0 ++ [(1, [.null])]) (h0 ++ o_X1 h0.length) := MS.of (by decide +kernel) (Nat.le_of_ble_eq_true rfl) cw_X1_init (by
  show SW none m_X1_init d 1 10 0 [some (.ref h0.length)] [] (h0 ++ (1, [.null]) :: []) _
  refine sw_aload_n dX1_init_0 rfl ?_
  refine sw_objInit dX1_init_1 lo_X1_3 (Nat.le_of_ble_eq_true rfl) (fun _ _ => rfl) ?_
  refine sw_aload_n dX1_init_4 rfl ?_
  refine sw_bipush (v := 10) dX1_init_5 (by decide) ?_
  refine c_newI (rc := 0) (rs := 0) (N := 10) (k := 0) dX1_init_7 (by decide) (by decide) (by decide) rfl ?_
  refine c_putF dX1_init_9 rfl lp_X1_9 (Nat.le_of_ble_eq_true rfl) (fun _ _ => ⟨rfl, rfl⟩) ?_
  exact sw_ret (v := none) dX1_init_12 rt_v ⟨rfl, rfl⟩)
def o_X2 (n : Nat) : ab_H := (2, [.ref (n + 1 + 0), .ref (n + 1 + 1), .ref (n + 1 + 2)]) :: ((([] ++ [(100, ar 11 (fun _ => 0))]) ++ [(100, ar 11 (fun _ => 0))]) ++ [(100, ar 11 (fun _ => 0))])
theorem i_X2 (h0 : ab_H) : MSK m_X2_init d 3 33 [.ref h0.length] (h0 ++ [(2, [.null, .null, .null])]) (h0 ++ o_X2 h0.length) := MS.of (by decide +kernel) (Nat.le_of_ble_eq_true rfl) cw_X2_init (by
  show SW none m_X2_init d 3 33 0 [some (.ref h0.length)] [] (h0 ++ (2, [.null, .null, .null]) :: []) _
  refine sw_aload_n dX2_init_0 rfl ?_
  refine sw_objInit dX2_init_1 lo_X2_3 (Nat.le_of_ble_eq_true rfl) (fun _ _ => rfl) ?_
  refine sw_aload_n dX2_init_4 rfl ?_
  refine sw_bipush (v := 11) dX2_init_5 (by decide) ?_
  refine c_newI (rc := 2) (rs := 22) (N := 11) (k := 0) dX2_init_7 (by decide) (by decide) (by decide) rfl ?_
  refine c_putF dX2_init_9 rfl lp_X2_9 (Nat.le_of_ble_eq_true rfl) (fun _ _ => ⟨rfl, rfl⟩) ?_
  refine sw_aload_n dX2_init_12 rfl ?_
  refine sw_bipush (v := 11) dX2_init_13 (by decide) ?_
  refine c_newI (rc := 1) (rs := 11) (N := 11) (k := 1) dX2_init_15 (by decide) (by decide) (by decide) rfl ?_
  refine c_putF dX2_init_17 rfl lp_X2_15 (Nat.le_of_ble_eq_true rfl) (fun _ _ => ⟨rfl, rfl⟩) ?_
  refine sw_aload_n dX2_init_20 rfl ?_
  refine sw_bipush (v := 11) dX2_init_21 (by decide) ?_
  refine c_newI (rc := 0) (rs := 0) (N := 11) (k := 2) dX2_init_23 (by decide) (by decide) (by decide) rfl ?_
  refine c_putF dX2_init_25 rfl lp_X2_18 (Nat.le_of_ble_eq_true rfl) (fun _ _ => ⟨rfl, rfl⟩) ?_
  exact sw_ret (v := none) dX2_init_28 rt_v ⟨rfl, rfl⟩)
def o_X4 (n : Nat) : ab_H := (4, [.ref (n + 1 + 0), .int 0]) :: ([] ++ [(100, ar 10 (fun _ => 0))])
theorem i_X4 (h0 : ab_H) : MSK m_X4_init d 1 10 [.ref h0.length] (h0 ++ [(4, [.null, .int 0])]) (h0 ++ o_X4 h0.length) := MS.of (by decide +kernel) (Nat.le_of_ble_eq_true rfl) cw_X4_init (by
  show SW none m_X4_init d 1 10 0 [some (.ref h0.length)] [] (h0 ++ (4, [.null, .int 0]) :: []) _
  refine sw_aload_n dX4_init_0 rfl ?_
  refine sw_objInit dX4_init_1 lo_X4_3 (Nat.le_of_ble_eq_true rfl) (fun _ _ => rfl) ?_
  refine sw_aload_n dX4_init_4 rfl ?_
  refine sw_bipush (v := 10) dX4_init_5 (by decide) ?_
  refine c_newI (rc := 0) (rs := 0) (N := 10) (k := 0) dX4_init_7 (by decide) (by decide) (by decide) rfl ?_
  refine c_putF dX4_init_9 rfl lp_X4_9 (Nat.le_of_ble_eq_true rfl) (fun _ _ => ⟨rfl, rfl⟩) ?_
  exact sw_ret (v := none) dX4_init_12 rt_v ⟨rfl, rfl⟩)
def o_X5 (n : Nat) : ab_H := (5, [.ref (n + 1 + 0), .ref (n + 1 + 9), .int 0, .int 0, .int 0]) :: (([] ++ gr_ (n + 1 + 0) 8 20) ++ gr_ (n + 1 + 9) 3 20)
theorem i_X5 (h0 : ab_H) : MSK m_X5_init d 13 231 [.ref h0.length] (h0 ++ [(5, [.null, .null, .int 0, .int 0, .int 0])]) (h0 ++ o_X5 h0.length) := MS.of (by decide +kernel) (Nat.le_of_ble_eq_true rfl) cw_X5_init (by
  show SW none m_X5_init d 13 231 0 [some (.ref h0.length)] [] (h0 ++ (5, [.null, .null, .int 0, .int 0, .int 0]) :: []) _
  refine sw_aload_n dX5_init_0 rfl ?_
  refine sw_objInit dX5_init_1 lo_X5_3 (Nat.le_of_ble_eq_true rfl) (fun _ _ => rfl) ?_
  refine sw_aload_n dX5_init_4 rfl ?_
  refine sw_bipush (v := 8) dX5_init_5 (by decide) ?_
  refine sw_bipush (v := 20) dX5_init_7 (by decide) ?_
  refine c_grid (rc := 4) (rs := 63) (N := 8) (K := 20) (j := 0) dX5_init_9 (ab_t1 219 (by decide +kernel) rfl) (by decide) (by decide) (by decide) (by decide) (by decide) (by decide) rfl ?_
  refine c_putF dX5_init_13 rfl lp_X5_11 (Nat.le_of_ble_eq_true rfl) (fun _ _ => ⟨rfl, rfl⟩) ?_
  refine sw_aload_n dX5_init_16 rfl ?_
  refine sw_iconst (v := 3) dX5_init_17 (by decide) ?_
  refine sw_bipush (v := 20) dX5_init_18 (by decide) ?_
  refine c_grid (rc := 0) (rs := 0) (N := 3) (K := 20) (j := 9) dX5_init_20 (ab_t1 219 (by decide +kernel) rfl) (by decide) (by decide) (by decide) (by decide) (by decide) (by decide) rfl ?_
  refine c_putF dX5_init_24 rfl lp_X5_16 (Nat.le_of_ble_eq_true rfl) (fun _ _ => ⟨rfl, rfl⟩) ?_
  exact sw_ret (v := none) dX5_init_27 rt_v ⟨rfl, rfl⟩)
def o_X3 (n : Nat) : ab_H := (3, [.ref (n + 1 + 0), .ref (n + 1 + 1), .int 1]) :: [(100, ar 10 (fun _ => 0)), (100, ar 10 (fun _ => 1))]
theorem f_fill {h0 : ab_H} {a b : Nat × List Value} : MSE m_J7_fill_53178 d [.ref (h0.length + 1 + 1), .int 1] (h0 ++ a :: b :: (100, ar 10 (fun _ => 0)) :: []) none (h0 ++ a :: b :: (100, ar 10 (fun _ => 1)) :: []) := by
  have := s_fill (d := d) (x := 1) (kh_at2 (h0 := h0) (a := a) (b := b) (b2 := (100, ar 10 (fun _ => 0))) (l := [])) (by decide)
  rw [kh_set2] at this
  exact this
theorem i_X3 (h0 : ab_H) : MSK m_X3_init (d + 1) 2 20 [.ref h0.length] (h0 ++ [(3, [.null, .null, .int 0])]) (h0 ++ o_X3 h0.length) := MS.of (by decide +kernel) (Nat.le_of_ble_eq_true rfl) cw_X3_init (by
  show SW none m_X3_init (d + 1) 2 20 0 [some (.ref h0.length)] [] (h0 ++ (3, [.null, .null, .int 0]) :: []) _
  refine sw_aload_n dX3_init_0 rfl ?_
  refine sw_objInit dX3_init_1 lo_X3_3 (Nat.le_of_ble_eq_true rfl) (fun _ _ => rfl) ?_
  refine sw_aload_n dX3_init_4 rfl ?_
  refine sw_bipush (v := 10) dX3_init_5 (by decide) ?_
  refine c_newI (rc := 1) (rs := 10) (N := 10) (k := 0) dX3_init_7 (by decide) (by decide) (by decide) rfl ?_
  refine c_putF dX3_init_9 rfl lp_X3_9 (Nat.le_of_ble_eq_true rfl) (fun _ _ => ⟨rfl, rfl⟩) ?_
  refine sw_aload_n dX3_init_12 rfl ?_
  refine sw_bipush (v := 10) dX3_init_13 (by decide) ?_
  refine c_newI (rc := 0) (rs := 0) (N := 10) (k := 1) dX3_init_15 (by decide) (by decide) (by decide) rfl ?_
  refine c_putF dX3_init_17 rfl lp_X3_15 (Nat.le_of_ble_eq_true rfl) (fun _ _ => ⟨rfl, rfl⟩) ?_
  refine sw_aload_n dX3_init_20 rfl ?_
  refine sw_iconst (v := 1) dX3_init_21 (by decide) ?_
  refine c_putf dX3_init_22 lp_X3_18 (Nat.le_of_ble_eq_true rfl) (fun _ _ => ⟨rfl, rfl⟩) ?_
  refine sw_aload_n dX3_init_25 rfl ?_
  refine sw_getf dX3_init_26 lf_X3_15 kh_at rfl ?_
  refine sw_iconst (v := 1) dX3_init_29 (by decide) ?_
  refine sw_cS (M := m_X3_init) dX3_init_30 ls_X3_22 f_fill rfl rfl (Nat.le_of_ble_eq_true rfl) (fun _ _ => rfl) rfl ?_
  exact sw_ret (v := none) dX3_init_33 rt_v ⟨rfl, rfl⟩)
end
