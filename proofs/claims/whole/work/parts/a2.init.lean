section
variable {sc : Option (List Int32)} {M : ab_M} {d rc rs pc : Nat} {ls : List (Option Value)} {st : List Value} {h0 : ab_H} {ci : Nat} {fs : List Value} {l l2 : ab_H} {x a b : Nat × List Value} {P : ab_O → ab_H → Prop}
/-! an object in the making: at the place h0.length, with what it has made behind it -/
theorem kh_ln : (h0 ++ a :: l).length = h0.length + 1 + l.length := by rw [List.length_append, List.length_cons]; omega
theorem kh_at : (h0 ++ a :: l)[h0.length]? = some a := by rw [List.getElem?_append_right (Nat.le_refl _), Nat.sub_self]; rfl
theorem kh_set : (h0 ++ a :: l).set h0.length x = h0 ++ x :: l := by
  rw [List.set_append_right (h := Nat.le_refl _), Nat.sub_self]; rfl
theorem kh_app : (h0 ++ a :: l) ++ l2 = h0 ++ a :: (l ++ l2) := by rw [List.append_assoc]; rfl
theorem kh_at1 : (h0 ++ a :: b :: l)[h0.length + 1 + 0]? = some b := by rw [List.getElem?_append_right (by omega), show h0.length + 1 + 0 - h0.length = 1 by omega]; rfl
theorem kh_set1 : (h0 ++ a :: b :: l).set (h0.length + 1 + 0) x = h0 ++ a :: x :: l := by
  rw [List.set_append_right (h := by omega), show h0.length + 1 + 0 - h0.length = 1 by omega]; rfl
theorem kh_at2 {b2 : Nat × List Value} : (h0 ++ a :: b :: b2 :: l)[h0.length + 1 + 1]? = some b2 := by rw [List.getElem?_append_right (by omega), show h0.length + 1 + 1 - h0.length = 2 by omega]; rfl
theorem kh_set2 {b2 : Nat × List Value} : (h0 ++ a :: b :: b2 :: l).set (h0.length + 1 + 1) x = h0 ++ a :: b :: x :: l := by
  rw [List.set_append_right (h := by omega), show h0.length + 1 + 1 - h0.length = 2 by omega]; rfl
theorem rep_ar {N : Nat} {v : Int32} : List.replicate N (Value.int v) = ar N (fun _ => v) := by
  apply List.ext_getElem?
  intro i
  unfold ar
  rw [List.getElem?_replicate, List.getElem?_map]
  by_cases h : i < N
  · rw [if_pos h, List.getElem?_range h]; rfl
  · rw [if_neg h, List.getElem?_eq_none (by rw [List.length_range]; omega)]; rfl
def gr_ (n N K : Nat) : ab_H := (104, (List.range N).map (fun i => .ref (n + 1 + i))) :: List.replicate N (100, ar K (fun _ => 0))
theorem gr_eq {n N K : Nat} : ab_gr n N K = gr_ n N K := by unfold ab_gr gr_; rw [rep_ar]
theorem c_newI {n : Int32} {N k : Nat} (hd : decode M.2.1 pc = .ok (.newarray .int, 2)) (g0 : ¬ n < 0) (hN : n.toNatClampNeg = N) (hb : N * 4 ≤ 536870912) (e : l.length = k) (kk : SW sc M d rc rs (pc + 2) ls (.ref (h0.length + 1 + k) :: st) (h0 ++ (ci, fs) :: (l ++ [(100, ar N (fun _ => 0))])) P) : SW sc M d (rc + 1) (rs + N) pc ls (.int n :: st) (h0 ++ (ci, fs) :: l) P :=
  sw_newI hd aw_int g0 hN hb (by rw [kh_ln, e, kh_app, rep_ar]; exact kk)
theorem c_newB {n : Int32} {N k : Nat} (hd : decode M.2.1 pc = .ok (.newarray .byte, 2)) (g0 : ¬ n < 0) (hN : n.toNatClampNeg = N) (hb : N * 1 ≤ 536870912) (e : l.length = k) (kk : SW sc M d rc rs (pc + 2) ls (.ref (h0.length + 1 + k) :: st) (h0 ++ (ci, fs) :: (l ++ [(101, ar N (fun _ => 0))])) P) : SW sc M d (rc + 1) (rs + N) pc ls (.int n :: st) (h0 ++ (ci, fs) :: l) P :=
  sw_newB hd aw_byte g0 hN hb (by rw [kh_ln, e, kh_app, rep_ar]; exact kk)
theorem c_putF {idx k : Nat} {v : Value} {ty : FieldType} (hd : decode M.2.1 pc = .ok (.putfield idx, 3)) (hi : M.1.name = "<init>") (hL : ab_LP M.1.cls idx ci k true ty) (hk : k < fs.length) (hn : ∀ σ τ, narrow ty (ab_v σ τ v) = ab_v σ τ v ∧ fits ty (ab_v σ τ v) = true) (kk : SW sc M d rc rs (pc + 3) ls st (h0 ++ (ci, fs.set k v) :: l) P) : SW sc M d rc rs pc ls (v :: .ref h0.length :: st) (h0 ++ (ci, fs) :: l) P :=
  sw_putF hd hi hL kh_at hk hn (by rw [kh_set]; exact kk)
theorem c_putf {idx k : Nat} {v : Value} {ty : FieldType} (hd : decode M.2.1 pc = .ok (.putfield idx, 3)) (hL : ab_LP M.1.cls idx ci k false ty) (hk : k < fs.length) (hn : ∀ σ τ, narrow ty (ab_v σ τ v) = ab_v σ τ v ∧ fits ty (ab_v σ τ v) = true) (kk : SW sc M d rc rs (pc + 3) ls st (h0 ++ (ci, fs.set k v) :: l) P) : SW sc M d rc rs pc ls (v :: .ref h0.length :: st) (h0 ++ (ci, fs) :: l) P :=
  sw_putf hd hL kh_at hk hn (by rw [kh_set]; exact kk)
theorem c_grid {idx : Nat} {n k : Int32} {N K j : Nat} (hd : decode M.2.1 pc = .ok (.multianewarray idx 2, 4)) (hcl : Cond.classLink M.1.cls idx "[[I" ∈ ab_big) (hn : ¬ n < 0) (hN : n.toNatClampNeg = N) (hk : ¬ k < 0) (hK : k.toNatClampNeg = K) (b1 : N ≤ 1000) (b2 : K ≤ 1000) (e : l.length = j) (kk : SW sc M d rc rs (pc + 4) ls (.ref (h0.length + 1 + j) :: st) (h0 ++ (ci, fs) :: (l ++ gr_ (h0.length + 1 + j) N K)) P) : SW sc M d (rc + (1 + N)) (rs + (N + N * K)) pc ls (.int k :: .int n :: st) (h0 ++ (ci, fs) :: l) P :=
  sw_grid hd hcl aw_int hn hN hk hK b1 b2 (by rw [kh_ln, e, gr_eq, kh_app]; exact kk)
theorem c_sub {N : ab_M} {idx idx2 cj F mc ms j : Nat} {fj : List Value} {O : Nat → ab_H} (d0 : decode M.2.1 pc = .ok (.new idx, 3)) (d1 : decode M.2.1 (pc + 3) = .ok (.dup, 1)) (d2 : decode M.2.1 (pc + 3 + 1) = .ok (.invokespecial idx2, 3)) (hL : ab_LN M.1.cls idx cj F fj) (hI : ab_LI M.1.cls idx2 N 0) (e : l.length = j) (hm : ∀ hh : ab_H, MSK N d mc ms [.ref hh.length] (hh ++ [(cj, fj)]) (hh ++ O hh.length)) (hst : st = [.ref h0.length])
    (kk : SW sc M (d + 1) rc rs (pc + 3 + 1 + 3) ls (.ref (h0.length + 1 + j) :: st) (h0 ++ (ci, fs) :: (l ++ O (h0.length + 1 + j))) P) : SW sc M (d + 1) (rc + mc + 1) (rs + ms + F) pc ls st (h0 ++ (ci, fs) :: l) P := by
  refine sw_new d0 hL (sw_dup d1 (fun _ _ => rfl) (sw_cI d2 hI (hm (h0 ++ (ci, fs) :: l)) rfl rfl (by rw [hst]; exact Nat.le_of_ble_eq_true rfl) (fun _ _ => by rw [hst]; rfl) rfl ?_))
  rw [kh_ln, e, kh_app]
  exact kk
end

section
variable {d : Nat}
def o_X0 (n : Nat) : ab_H := (0, [.ref (n + 1 + 0), .int 0]) :: ([] ++ [(101, ar 400 (fun _ => 0))])
theorem i_X0 (h0 : ab_H) : MSK m_X0_init d 1 400 [.ref h0.length] (h0 ++ [(0, [.null, .int 0])]) (h0 ++ o_X0 h0.length) := MS.of (by decide +kernel) (Nat.le_of_ble_eq_true rfl) cw_X0_init (by
  show SW none m_X0_init d 1 400 0 [some (.ref h0.length)] [] (h0 ++ (0, [.null, .int 0]) :: []) _
  refine sw_aload_n dX0_init_0 rfl ?_
  refine sw_objInit dX0_init_1 lo_X0_3 (Nat.le_of_ble_eq_true rfl) (fun _ _ => rfl) ?_
  refine sw_aload_n dX0_init_4 rfl ?_
  refine sw_sipush (v := 400) dX0_init_5 (by decide) ?_
  refine c_newB (rc := 0) (rs := 0) (N := 400) (k := 0) dX0_init_8 (by decide) (by decide) (by decide) rfl ?_
  refine c_putF dX0_init_10 rfl lp_X0_9 (Nat.le_of_ble_eq_true rfl) (fun _ _ => ⟨rfl, rfl⟩) ?_
  exact sw_ret (v := none) dX0_init_13 rt_v ⟨rfl, rfl⟩)
def o_X1 (n : Nat) : ab_H := (1, [.ref (n + 1 + 0)]) :: ([] ++ [(100, ar 10 (fun _ => 0))])
theorem i_X1 (h0 : ab_H) : MSK m_X1_init d 1 10 [.ref h0.length] (h0 ++ [(1, [.null])]) (h0 ++ o_X1 h0.length) := MS.of (by decide +kernel) (Nat.le_of_ble_eq_true rfl) cw_X1_init (by
  show SW none m_X1_init d 1 10 0 [some (.ref h0.length)] [] (h0 ++ (1, [.null]) :: []) _
  refine sw_aload_n dX1_init_0 rfl ?_
  refine sw_objInit dX1_init_1 lo_X1_3 (Nat.le_of_ble_eq_true rfl) (fun _ _ => rfl) ?_
  refine sw_aload_n dX1_init_4 rfl ?_
  refine sw_bipush (v := 10) dX1_init_5 (by decide) ?_
  refine c_newI (rc := 0) (rs := 0) (N := 10) (k := 0) dX1_init_7 (by decide) (by decide) (by decide) rfl ?_
  refine c_putF dX1_init_9 rfl lp_X1_9 (Nat.le_of_ble_eq_true rfl) (fun _ _ => ⟨rfl, rfl⟩) ?_
  exact sw_ret (v := none) dX1_init_12 rt_v ⟨rfl, rfl⟩)
def o_X2 (n : Nat) : ab_H := (2, [.ref (n + 1 + 0), .ref (n + 1 + 1), .ref (n + 1 + 2)]) :: ((([] ++ [(100, ar 11 (fun _ => 0))]) ++ [(100, ar 11 (fun _ => 0))]) ++ [(100, ar 11 (fun _ => 0))])
theorem i_X2 (h0 : ab_H) : MSK m_X2_init d 3 33 [.ref h0.length] (h0 ++ [(2, [.null, .null, .null])]) (h0 ++ o_X2 h0.length) := MS.of (by decide +kernel) (Nat.le_of_ble_eq_true rfl) cw_X2_init (by
  show SW none m_X2_init d 3 33 0 [some (.ref h0.length)] [] (h0 ++ (2, [.null, .null, .null]) :: []) _
  refine sw_aload_n dX2_init_0 rfl ?_
  refine sw_objInit dX2_init_1 lo_X2_3 (Nat.le_of_ble_eq_true rfl) (fun _ _ => rfl) ?_
  refine sw_aload_n dX2_init_4 rfl ?_
  refine sw_bipush (v := 11) dX2_init_5 (by decide) ?_
  refine c_newI (rc := 2) (rs := 22) (N := 11) (k := 0) dX2_init_7 (by decide) (by decide) (by decide) rfl ?_
  refine c_putF dX2_init_9 rfl lp_X2_9 (Nat.le_of_ble_eq_true rfl) (fun _ _ => ⟨rfl, rfl⟩) ?_
  refine sw_aload_n dX2_init_12 rfl ?_
  refine sw_bipush (v := 11) dX2_init_13 (by decide) ?_
  refine c_newI (rc := 1) (rs := 11) (N := 11) (k := 1) dX2_init_15 (by decide) (by decide) (by decide) rfl ?_
  refine c_putF dX2_init_17 rfl lp_X2_15 (Nat.le_of_ble_eq_true rfl) (fun _ _ => ⟨rfl, rfl⟩) ?_
  refine sw_aload_n dX2_init_20 rfl ?_
  refine sw_bipush (v := 11) dX2_init_21 (by decide) ?_
  refine c_newI (rc := 0) (rs := 0) (N := 11) (k := 2) dX2_init_23 (by decide) (by decide) (by decide) rfl ?_
  refine c_putF dX2_init_25 rfl lp_X2_18 (Nat.le_of_ble_eq_true rfl) (fun _ _ => ⟨rfl, rfl⟩) ?_
  exact sw_ret (v := none) dX2_init_28 rt_v ⟨rfl, rfl⟩)
def o_X4 (n : Nat) : ab_H := (4, [.ref (n + 1 + 0), .int 0]) :: ([] ++ [(100, ar 10 (fun _ => 0))])
theorem i_X4 (h0 : ab_H) : MSK m_X4_init d 1 10 [.ref h0.length] (h0 ++ [(4, [.null, .int 0])]) (h0 ++ o_X4 h0.length) := MS.of (by decide +kernel) (Nat.le_of_ble_eq_true rfl) cw_X4_init (by
  show SW none m_X4_init d 1 10 0 [some (.ref h0.length)] [] (h0 ++ (4, [.null, .int 0]) :: []) _
  refine sw_aload_n dX4_init_0 rfl ?_
  refine sw_objInit dX4_init_1 lo_X4_3 (Nat.le_of_ble_eq_true rfl) (fun _ _ => rfl) ?_
  refine sw_aload_n dX4_init_4 rfl ?_
  refine sw_bipush (v := 10) dX4_init_5 (by decide) ?_
  refine c_newI (rc := 0) (rs := 0) (N := 10) (k := 0) dX4_init_7 (by decide) (by decide) (by decide) rfl ?_
  refine c_putF dX4_init_9 rfl lp_X4_9 (Nat.le_of_ble_eq_true rfl) (fun _ _ => ⟨rfl, rfl⟩) ?_
  exact sw_ret (v := none) dX4_init_12 rt_v ⟨rfl, rfl⟩)
def o_X5 (n : Nat) : ab_H := (5, [.ref (n + 1 + 0), .ref (n + 1 + 9), .int 0, .int 0, .int 0]) :: (([] ++ gr_ (n + 1 + 0) 8 20) ++ gr_ (n + 1 + 9) 3 20)
theorem i_X5 (h0 : ab_H) : MSK m_X5_init d 13 231 [.ref h0.length] (h0 ++ [(5, [.null, .null, .int 0, .int 0, .int 0])]) (h0 ++ o_X5 h0.length) := MS.of (by decide +kernel) (Nat.le_of_ble_eq_true rfl) cw_X5_init (by
  show SW none m_X5_init d 13 231 0 [some (.ref h0.length)] [] (h0 ++ (5, [.null, .null, .int 0, .int 0, .int 0]) :: []) _
  refine sw_aload_n dX5_init_0 rfl ?_
  refine sw_objInit dX5_init_1 lo_X5_3 (Nat.le_of_ble_eq_true rfl) (fun _ _ => rfl) ?_
  refine sw_aload_n dX5_init_4 rfl ?_
  refine sw_bipush (v := 8) dX5_init_5 (by decide) ?_
  refine sw_bipush (v := 20) dX5_init_7 (by decide) ?_
  refine c_grid (rc := 4) (rs := 63) (N := 8) (K := 20) (j := 0) dX5_init_9 (ab_t1 219 (by decide +kernel) rfl) (by decide) (by decide) (by decide) (by decide) (by decide) (by decide) rfl ?_
  refine c_putF dX5_init_13 rfl lp_X5_11 (Nat.le_of_ble_eq_true rfl) (fun _ _ => ⟨rfl, rfl⟩) ?_
  refine sw_aload_n dX5_init_16 rfl ?_
  refine sw_iconst (v := 3) dX5_init_17 (by decide) ?_
  refine sw_bipush (v := 20) dX5_init_18 (by decide) ?_
  refine c_grid (rc := 0) (rs := 0) (N := 3) (K := 20) (j := 9) dX5_init_20 (ab_t1 219 (by decide +kernel) rfl) (by decide) (by decide) (by decide) (by decide) (by decide) (by decide) rfl ?_
  refine c_putF dX5_init_24 rfl lp_X5_16 (Nat.le_of_ble_eq_true rfl) (fun _ _ => ⟨rfl, rfl⟩) ?_
  exact sw_ret (v := none) dX5_init_27 rt_v ⟨rfl, rfl⟩)
def o_X3 (n : Nat) : ab_H := (3, [.ref (n + 1 + 0), .ref (n + 1 + 1), .int 1]) :: [(100, ar 10 (fun _ => 0)), (100, ar 10 (fun _ => 1))]
theorem f_fill {h0 : ab_H} {a b : Nat × List Value} : MSE m_J7_fill_53178 d [.ref (h0.length + 1 + 1), .int 1] (h0 ++ a :: b :: (100, ar 10 (fun _ => 0)) :: []) none (h0 ++ a :: b :: (100, ar 10 (fun _ => 1)) :: []) := by
  have := s_fill (d := d) (x := 1) (kh_at2 (h0 := h0) (a := a) (b := b) (b2 := (100, ar 10 (fun _ => 0))) (l := [])) (by decide)
  rw [kh_set2] at this
  exact this
theorem i_X3 (h0 : ab_H) : MSK m_X3_init (d + 1) 2 20 [.ref h0.length] (h0 ++ [(3, [.null, .null, .int 0])]) (h0 ++ o_X3 h0.length) := MS.of (by decide +kernel) (Nat.le_of_ble_eq_true rfl) cw_X3_init (by
  show SW none m_X3_init (d + 1) 2 20 0 [some (.ref h0.length)] [] (h0 ++ (3, [.null, .null, .int 0]) :: []) _
  refine sw_aload_n dX3_init_0 rfl ?_
  refine sw_objInit dX3_init_1 lo_X3_3 (Nat.le_of_ble_eq_true rfl) (fun _ _ => rfl) ?_
  refine sw_aload_n dX3_init_4 rfl ?_
  refine sw_bipush (v := 10) dX3_init_5 (by decide) ?_
  refine c_newI (rc := 1) (rs := 10) (N := 10) (k := 0) dX3_init_7 (by decide) (by decide) (by decide) rfl ?_
  refine c_putF dX3_init_9 rfl lp_X3_9 (Nat.le_of_ble_eq_true rfl) (fun _ _ => ⟨rfl, rfl⟩) ?_
  refine sw_aload_n dX3_init_12 rfl ?_
  refine sw_bipush (v := 10) dX3_init_13 (by decide) ?_
  refine c_newI (rc := 0) (rs := 0) (N := 10) (k := 1) dX3_init_15 (by decide) (by decide) (by decide) rfl ?_
  refine c_putF dX3_init_17 rfl lp_X3_15 (Nat.le_of_ble_eq_true rfl) (fun _ _ => ⟨rfl, rfl⟩) ?_
  refine sw_aload_n dX3_init_20 rfl ?_
  refine sw_iconst (v := 1) dX3_init_21 (by decide) ?_
  refine c_putf dX3_init_22 lp_X3_18 (Nat.le_of_ble_eq_true rfl) (fun _ _ => ⟨rfl, rfl⟩) ?_
  refine sw_aload_n dX3_init_25 rfl ?_
  refine sw_getf dX3_init_26 lf_X3_15 kh_at rfl ?_
  refine sw_iconst (v := 1) dX3_init_29 (by decide) ?_
  refine sw_cS (M := m_X3_init) dX3_init_30 ls_X3_22 f_fill rfl rfl (Nat.le_of_ble_eq_true rfl) (fun _ _ => rfl) rfl ?_
  exact sw_ret (v := none) dX3_init_33 rt_v ⟨rfl, rfl⟩)
def o_X8 (n : Nat) : ab_H := (8, [.ref (n + 1 + 0), .ref (n + 1 + 1), .ref (n + 1 + 2), .ref (n + 1 + 3), .ref (n + 1 + 4), .ref (n + 1 + 5)]) :: (((((([] ++ [(100, ar 10 (fun _ => 0))]) ++ [(100, ar 10 (fun _ => 0))]) ++ [(100, ar 10 (fun _ => 0))]) ++ [(100, ar 10 (fun _ => 0))]) ++ [(100, ar 10 (fun _ => 0))]) ++ o_X4 (n + 1 + 5))
theorem i_X8 (h0 : ab_H) : MSK m_X8_init (d + 1) 7 62 [.ref h0.length] (h0 ++ [(8, [.null, .null, .null, .null, .null, .null])]) (h0 ++ o_X8 h0.length) := MS.of (by decide +kernel) (Nat.le_of_ble_eq_true rfl) cw_X8_init (by
  show SW none m_X8_init (d + 1) 7 62 0 [some (.ref h0.length)] [] (h0 ++ (8, [.null, .null, .null, .null, .null, .null]) :: []) _
  refine sw_aload_n dX8_init_0 rfl ?_
  refine sw_objInit dX8_init_1 lo_X8_3 (Nat.le_of_ble_eq_true rfl) (fun _ _ => rfl) ?_
  refine sw_aload_n dX8_init_4 rfl ?_
  refine sw_bipush (v := 10) dX8_init_5 (by decide) ?_
  refine c_newI (rc := 6) (rs := 52) (N := 10) (k := 0) dX8_init_7 (by decide) (by decide) (by decide) rfl ?_
  refine c_putF dX8_init_9 rfl lp_X8_9 (Nat.le_of_ble_eq_true rfl) (fun _ _ => ⟨rfl, rfl⟩) ?_
  refine sw_aload_n dX8_init_12 rfl ?_
  refine sw_bipush (v := 10) dX8_init_13 (by decide) ?_
  refine c_newI (rc := 5) (rs := 42) (N := 10) (k := 1) dX8_init_15 (by decide) (by decide) (by decide) rfl ?_
  refine c_putF dX8_init_17 rfl lp_X8_15 (Nat.le_of_ble_eq_true rfl) (fun _ _ => ⟨rfl, rfl⟩) ?_
  refine sw_aload_n dX8_init_20 rfl ?_
  refine sw_bipush (v := 10) dX8_init_21 (by decide) ?_
  refine c_newI (rc := 4) (rs := 32) (N := 10) (k := 2) dX8_init_23 (by decide) (by decide) (by decide) rfl ?_
  refine c_putF dX8_init_25 rfl lp_X8_18 (Nat.le_of_ble_eq_true rfl) (fun _ _ => ⟨rfl, rfl⟩) ?_
  refine sw_aload_n dX8_init_28 rfl ?_
  refine sw_bipush (v := 10) dX8_init_29 (by decide) ?_
  refine c_newI (rc := 3) (rs := 22) (N := 10) (k := 3) dX8_init_31 (by decide) (by decide) (by decide) rfl ?_
  refine c_putF dX8_init_33 rfl lp_X8_21 (Nat.le_of_ble_eq_true rfl) (fun _ _ => ⟨rfl, rfl⟩) ?_
  refine sw_aload_n dX8_init_36 rfl ?_
  refine sw_bipush (v := 10) dX8_init_37 (by decide) ?_
  refine c_newI (rc := 2) (rs := 12) (N := 10) (k := 4) dX8_init_39 (by decide) (by decide) (by decide) rfl ?_
  refine c_putF dX8_init_41 rfl lp_X8_24 (Nat.le_of_ble_eq_true rfl) (fun _ _ => ⟨rfl, rfl⟩) ?_
  refine sw_aload_n dX8_init_44 rfl ?_
  refine c_sub (rc := -6) (rs := -56) (j := 5) dX8_init_45 dX8_init_48 dX8_init_49 ln_X8_27 li_X8_29 rfl (fun hh => i_X4 hh) rfl ?_
  refine c_putF dX8_init_52 rfl lp_X8_30 (Nat.le_of_ble_eq_true rfl) (fun _ _ => ⟨rfl, rfl⟩) ?_
  exact sw_ret (v := none) dX8_init_55 rt_v ⟨rfl, rfl⟩)
def o_X6 (n : Nat) : ab_H := (6, [.ref (n + 1 + 0), .ref (n + 1 + 2), .ref (n + 1 + 5), .int 0, .int 0, .int 0, .int 0, .int 0]) :: ((([] ++ o_X0 (n + 1 + 0)) ++ o_X3 (n + 1 + 2)) ++ o_X1 (n + 1 + 5))
theorem i_X6 (h0 : ab_H) : MSK m_X6_init (d + 2) 7 436 [.ref h0.length] (h0 ++ [(6, [.null, .null, .null, .int 0, .int 0, .int 0, .int 0, .int 0])]) (h0 ++ o_X6 h0.length) := MS.of (by decide +kernel) (Nat.le_of_ble_eq_true rfl) cw_X6_init (by
  show SW none m_X6_init (d + 2) 7 436 0 [some (.ref h0.length)] [] (h0 ++ (6, [.null, .null, .null, .int 0, .int 0, .int 0, .int 0, .int 0]) :: []) _
  refine sw_aload_n dX6_init_0 rfl ?_
  refine sw_objInit dX6_init_1 lo_X6_3 (Nat.le_of_ble_eq_true rfl) (fun _ _ => rfl) ?_
  refine sw_aload_n dX6_init_4 rfl ?_
  refine c_sub (rc := -1) (rs := -8) (j := 0) dX6_init_5 dX6_init_8 dX6_init_9 ln_X6_9 li_X6_11 rfl (fun hh => i_X0 hh) rfl ?_
  refine c_putF dX6_init_12 rfl lp_X6_12 (Nat.le_of_ble_eq_true rfl) (fun _ _ => ⟨rfl, rfl⟩) ?_
  refine sw_aload_n dX6_init_15 rfl ?_
  refine c_sub (rc := -9) (rs := -452) (j := 2) dX6_init_16 dX6_init_19 dX6_init_20 ln_X6_18 li_X6_20 rfl (fun hh => i_X3 hh) rfl ?_
  refine c_putF dX6_init_23 rfl lp_X6_21 (Nat.le_of_ble_eq_true rfl) (fun _ _ => ⟨rfl, rfl⟩) ?_
  refine sw_aload_n dX6_init_26 rfl ?_
  refine c_sub (rc := -17) (rs := -896) (j := 5) dX6_init_27 dX6_init_30 dX6_init_31 ln_X6_25 li_X6_27 rfl (fun hh => i_X1 hh) rfl ?_
  refine c_putF dX6_init_34 rfl lp_X6_28 (Nat.le_of_ble_eq_true rfl) (fun _ _ => ⟨rfl, rfl⟩) ?_
  exact sw_ret (v := none) dX6_init_37 rt_v ⟨rfl, rfl⟩)
def o_X7 (n : Nat) : ab_H := (7, [.ref (n + 1 + 0), .ref (n + 1 + 8), .ref (n + 1 + 11), .ref (n + 1 + 13), .ref (n + 1 + 21)]) :: ((((([] ++ gr_ (n + 1 + 0) 7 3) ++ o_X3 (n + 1 + 8)) ++ o_X1 (n + 1 + 11)) ++ o_X8 (n + 1 + 13)) ++ o_X4 (n + 1 + 21))
theorem i_X7 (h0 : ab_H) : MSK m_X7_init (d + 2) 23 142 [.ref h0.length] (h0 ++ [(7, [.null, .null, .null, .null, .null])]) (h0 ++ o_X7 h0.length) := MS.of (by decide +kernel) (Nat.le_of_ble_eq_true rfl) cw_X7_init (by
  show SW none m_X7_init (d + 2) 23 142 0 [some (.ref h0.length)] [] (h0 ++ (7, [.null, .null, .null, .null, .null]) :: []) _
  refine sw_aload_n dX7_init_0 rfl ?_
  refine sw_objInit dX7_init_1 lo_X7_3 (Nat.le_of_ble_eq_true rfl) (fun _ _ => rfl) ?_
  refine sw_aload_n dX7_init_4 rfl ?_
  refine sw_bipush (v := 7) dX7_init_5 (by decide) ?_
  refine sw_iconst (v := 3) dX7_init_7 (by decide) ?_
  refine c_grid (rc := 15) (rs := 114) (N := 7) (K := 3) (j := 0) dX7_init_8 (ab_t1 187 (by decide +kernel) rfl) (by decide) (by decide) (by decide) (by decide) (by decide) (by decide) rfl ?_
  refine c_putF dX7_init_12 rfl lp_X7_11 (Nat.le_of_ble_eq_true rfl) (fun _ _ => ⟨rfl, rfl⟩) ?_
  refine sw_aload_n dX7_init_15 rfl ?_
  refine c_sub (rc := -9) (rs := -33) (j := 8) dX7_init_16 dX7_init_19 dX7_init_20 ln_X7_16 li_X7_18 rfl (fun hh => i_X3 hh) rfl ?_
  refine c_putF dX7_init_23 rfl lp_X7_19 (Nat.le_of_ble_eq_true rfl) (fun _ _ => ⟨rfl, rfl⟩) ?_
  refine sw_aload_n dX7_init_26 rfl ?_
  refine c_sub (rc := -33) (rs := -180) (j := 11) dX7_init_27 dX7_init_30 dX7_init_31 ln_X7_23 li_X7_25 rfl (fun hh => i_X1 hh) rfl ?_
  refine c_putF dX7_init_34 rfl lp_X7_26 (Nat.le_of_ble_eq_true rfl) (fun _ _ => ⟨rfl, rfl⟩) ?_
  refine sw_aload_n dX7_init_37 rfl ?_
  refine c_sub (rc := -57) (rs := -327) (j := 13) dX7_init_38 dX7_init_41 dX7_init_42 ln_X7_30 li_X7_32 rfl (fun hh => i_X8 hh) rfl ?_
  refine c_putF dX7_init_45 rfl lp_X7_33 (Nat.le_of_ble_eq_true rfl) (fun _ _ => ⟨rfl, rfl⟩) ?_
  refine sw_aload_n dX7_init_48 rfl ?_
  refine c_sub (rc := -81) (rs := -474) (j := 21) dX7_init_49 dX7_init_52 dX7_init_53 ln_X7_37 li_X7_39 rfl (fun hh => i_X4 hh) rfl ?_
  refine c_putF dX7_init_56 rfl lp_X7_40 (Nat.le_of_ble_eq_true rfl) (fun _ _ => ⟨rfl, rfl⟩) ?_
  exact sw_ret (v := none) dX7_init_59 rt_v ⟨rfl, rfl⟩)
def o_X9 (n : Nat) : ab_H := (9, [.ref (n + 1 + 0), .ref (n + 1 + 8), .ref (n + 1 + 10), .ref (n + 1 + 13), .ref (n + 1 + 16), .ref (n + 1 + 18), .ref (n + 1 + 26), .ref (n + 1 + 30), .ref (n + 1 + 54), .ref (n + 1 + 68)]) :: (((((((((([] ++ o_X6 (n + 1 + 0)) ++ o_X0 (n + 1 + 8)) ++ o_X3 (n + 1 + 10)) ++ o_X3 (n + 1 + 13)) ++ o_X1 (n + 1 + 16)) ++ o_X8 (n + 1 + 18)) ++ o_X2 (n + 1 + 26)) ++ o_X7 (n + 1 + 30)) ++ o_X5 (n + 1 + 54)) ++ [(100, ar 10 (fun _ => 0))])
theorem i_X9 (h0 : ab_H) : MSK m_X9_init (d + 3) 69 1400 [.ref h0.length] (h0 ++ [(9, [.null, .null, .null, .null, .null, .null, .null, .null, .null, .null])]) (h0 ++ o_X9 h0.length) := MS.of (by decide +kernel) (Nat.le_of_ble_eq_true rfl) cw_X9_init (by
  show SW none m_X9_init (d + 3) 69 1400 0 [some (.ref h0.length)] [] (h0 ++ (9, [.null, .null, .null, .null, .null, .null, .null, .null, .null, .null]) :: []) _
  refine sw_aload_n dX9_init_0 rfl ?_
  refine sw_objInit dX9_init_1 lo_X9_3 (Nat.le_of_ble_eq_true rfl) (fun _ _ => rfl) ?_
  refine sw_aload_n dX9_init_4 rfl ?_
  refine c_sub (rc := -1) (rs := -10) (j := 0) dX9_init_5 dX9_init_8 dX9_init_9 ln_X9_9 li_X9_11 rfl (fun hh => i_X6 hh) rfl ?_
  refine c_putF dX9_init_12 rfl lp_X9_12 (Nat.le_of_ble_eq_true rfl) (fun _ _ => ⟨rfl, rfl⟩) ?_
  refine sw_aload_n dX9_init_15 rfl ?_
  refine c_sub (rc := -71) (rs := -1420) (j := 8) dX9_init_16 dX9_init_19 dX9_init_20 ln_X9_16 li_X9_18 rfl (fun hh => i_X0 hh) rfl ?_
  refine c_putF dX9_init_23 rfl lp_X9_19 (Nat.le_of_ble_eq_true rfl) (fun _ _ => ⟨rfl, rfl⟩) ?_
  refine sw_aload_n dX9_init_26 rfl ?_
  refine c_sub (rc := -141) (rs := -2830) (j := 10) dX9_init_27 dX9_init_30 dX9_init_31 ln_X9_23 li_X9_25 rfl (fun hh => i_X3 hh) rfl ?_
  refine c_putF dX9_init_34 rfl lp_X9_26 (Nat.le_of_ble_eq_true rfl) (fun _ _ => ⟨rfl, rfl⟩) ?_
  refine sw_aload_n dX9_init_37 rfl ?_
  refine c_sub (rc := -211) (rs := -4240) (j := 13) dX9_init_38 dX9_init_41 dX9_init_42 ln_X9_23 li_X9_25 rfl (fun hh => i_X3 hh) rfl ?_
  refine c_putF dX9_init_45 rfl lp_X9_30 (Nat.le_of_ble_eq_true rfl) (fun _ _ => ⟨rfl, rfl⟩) ?_
  refine sw_aload_n dX9_init_48 rfl ?_
  refine c_sub (rc := -281) (rs := -5650) (j := 16) dX9_init_49 dX9_init_52 dX9_init_53 ln_X9_33 li_X9_35 rfl (fun hh => i_X1 hh) rfl ?_
  refine c_putF dX9_init_56 rfl lp_X9_36 (Nat.le_of_ble_eq_true rfl) (fun _ _ => ⟨rfl, rfl⟩) ?_
  refine sw_aload_n dX9_init_59 rfl ?_
  refine c_sub (rc := -351) (rs := -7060) (j := 18) dX9_init_60 dX9_init_63 dX9_init_64 ln_X9_40 li_X9_42 rfl (fun hh => i_X8 hh) rfl ?_
  refine c_putF dX9_init_67 rfl lp_X9_43 (Nat.le_of_ble_eq_true rfl) (fun _ _ => ⟨rfl, rfl⟩) ?_
  refine sw_aload_n dX9_init_70 rfl ?_
  refine c_sub (rc := -421) (rs := -8470) (j := 26) dX9_init_71 dX9_init_74 dX9_init_75 ln_X9_47 li_X9_49 rfl (fun hh => i_X2 hh) rfl ?_
  refine c_putF dX9_init_78 rfl lp_X9_50 (Nat.le_of_ble_eq_true rfl) (fun _ _ => ⟨rfl, rfl⟩) ?_
  refine sw_aload_n dX9_init_81 rfl ?_
  refine c_sub (rc := -491) (rs := -9880) (j := 30) dX9_init_82 dX9_init_85 dX9_init_86 ln_X9_54 li_X9_56 rfl (fun hh => i_X7 hh) rfl ?_
  refine c_putF dX9_init_89 rfl lp_X9_57 (Nat.le_of_ble_eq_true rfl) (fun _ _ => ⟨rfl, rfl⟩) ?_
  refine sw_aload_n dX9_init_92 rfl ?_
  refine c_sub (rc := -561) (rs := -11290) (j := 54) dX9_init_93 dX9_init_96 dX9_init_97 ln_X9_61 li_X9_63 rfl (fun hh => i_X5 hh) rfl ?_
  refine c_putF dX9_init_100 rfl lp_X9_64 (Nat.le_of_ble_eq_true rfl) (fun _ _ => ⟨rfl, rfl⟩) ?_
  refine sw_aload_n dX9_init_103 rfl ?_
  refine sw_bipush (v := 10) dX9_init_104 (by decide) ?_
  refine c_newI (rc := -562) (rs := -11300) (N := 10) (k := 68) dX9_init_106 (by decide) (by decide) (by decide) rfl ?_
  refine c_putF dX9_init_108 rfl lp_X9_68 (Nat.le_of_ble_eq_true rfl) (fun _ _ => ⟨rfl, rfl⟩) ?_
  exact sw_ret (v := none) dX9_init_111 rt_v ⟨rfl, rfl⟩)
def o_X10 (n : Nat) : ab_H := (10, [.int 0, .ref (n + 1 + 0), .ref (n + 1 + 1), .ref (n + 1 + 2), .ref (n + 1 + 3), .ref (n + 1 + 4), .int 1, .int 0, .int 0, .int 0, .int 0, .ref (n + 1 + 5), .ref (n + 1 + 6), .int 0, .int 0, .int 0, .int 0, .int 0, .int 0, .int 0, .int 0, .int 0, .ref (n + 1 + 7), .ref (n + 1 + 8), .int 0, .ref (n + 1 + 9), .ref (n + 1 + 10)]) :: ((((((((((([] ++ [(100, (ar 20 (fun _ => 0)).set (10 : Int32).toNatClampNeg (.int 1))]) ++ [(100, ar 20 (fun _ => 0))]) ++ [(100, ar 160 (fun _ => 0))]) ++ [(100, ar 60 (fun _ => 0))]) ++ [(100, ar 10 (fun _ => 0))]) ++ [(100, ar 121 (fun _ => 0))]) ++ [(100, ar 400 (fun _ => 0))]) ++ [(100, ar 10 (fun _ => 0))]) ++ [(100, ar 400 (fun _ => 0))]) ++ [(100, ar 11 (fun _ => 0))]) ++ [(100, ar 40 (fun _ => 0))])
theorem i_X10 (h0 : ab_H) : MSK m_X10_init d 11 1252 [.ref h0.length] (h0 ++ [(10, [.int 0, .null, .null, .null, .null, .null, .int 0, .int 0, .int 0, .int 0, .int 0, .null, .null, .int 0, .int 0, .int 0, .int 0, .int 0, .int 0, .int 0, .int 0, .int 0, .null, .null, .int 0, .null, .null])]) (h0 ++ o_X10 h0.length) := MS.of (by decide +kernel) (Nat.le_of_ble_eq_true rfl) cw_X10_init (by
  show SW none m_X10_init d 11 1252 0 [some (.ref h0.length)] [] (h0 ++ (10, [.int 0, .null, .null, .null, .null, .null, .int 0, .int 0, .int 0, .int 0, .int 0, .null, .null, .int 0, .int 0, .int 0, .int 0, .int 0, .int 0, .int 0, .int 0, .int 0, .null, .null, .int 0, .null, .null]) :: []) _
  refine sw_aload_n dX10_init_0 rfl ?_
  refine sw_objInit dX10_init_1 lo_X10_13 (Nat.le_of_ble_eq_true rfl) (fun _ _ => rfl) ?_
  refine sw_aload_n dX10_init_4 rfl ?_
  refine sw_bipush (v := 20) dX10_init_5 (by decide) ?_
  refine c_newI (rc := 10) (rs := 1232) (N := 20) (k := 0) dX10_init_7 (by decide) (by decide) (by decide) rfl ?_
  refine c_putF dX10_init_9 rfl lp_X10_19 (Nat.le_of_ble_eq_true rfl) (fun _ _ => ⟨rfl, rfl⟩) ?_
  refine sw_aload_n dX10_init_12 rfl ?_
  refine sw_bipush (v := 20) dX10_init_13 (by decide) ?_
  refine c_newI (rc := 9) (rs := 1212) (N := 20) (k := 1) dX10_init_15 (by decide) (by decide) (by decide) rfl ?_
  refine c_putF dX10_init_17 rfl lp_X10_23 (Nat.le_of_ble_eq_true rfl) (fun _ _ => ⟨rfl, rfl⟩) ?_
  refine sw_aload_n dX10_init_20 rfl ?_
  refine sw_sipush (v := 160) dX10_init_21 (by decide) ?_
  refine c_newI (rc := 8) (rs := 1052) (N := 160) (k := 2) dX10_init_24 (by decide) (by decide) (by decide) rfl ?_
  refine c_putF dX10_init_26 rfl lp_X10_26 (Nat.le_of_ble_eq_true rfl) (fun _ _ => ⟨rfl, rfl⟩) ?_
  refine sw_aload_n dX10_init_29 rfl ?_
  refine sw_bipush (v := 60) dX10_init_30 (by decide) ?_
  refine c_newI (rc := 7) (rs := 992) (N := 60) (k := 3) dX10_init_32 (by decide) (by decide) (by decide) rfl ?_
  refine c_putF dX10_init_34 rfl lp_X10_29 (Nat.le_of_ble_eq_true rfl) (fun _ _ => ⟨rfl, rfl⟩) ?_
  refine sw_aload_n dX10_init_37 rfl ?_
  refine sw_bipush (v := 10) dX10_init_38 (by decide) ?_
  refine c_newI (rc := 6) (rs := 982) (N := 10) (k := 4) dX10_init_40 (by decide) (by decide) (by decide) rfl ?_
  refine c_putF dX10_init_42 rfl lp_X10_32 (Nat.le_of_ble_eq_true rfl) (fun _ _ => ⟨rfl, rfl⟩) ?_
  refine sw_aload_n dX10_init_45 rfl ?_
  refine sw_iconst (v := 1) dX10_init_46 (by decide) ?_
  refine c_putf dX10_init_47 lp_X10_35 (Nat.le_of_ble_eq_true rfl) (fun _ _ => ⟨rfl, rfl⟩) ?_
  refine sw_aload_n dX10_init_50 rfl ?_
  refine sw_bipush (v := 121) dX10_init_51 (by decide) ?_
  refine c_newI (rc := 5) (rs := 861) (N := 121) (k := 5) dX10_init_53 (by decide) (by decide) (by decide) rfl ?_
  refine c_putF dX10_init_55 rfl lp_X10_38 (Nat.le_of_ble_eq_true rfl) (fun _ _ => ⟨rfl, rfl⟩) ?_
  refine sw_aload_n dX10_init_58 rfl ?_
  refine sw_sipush (v := 400) dX10_init_59 (by decide) ?_
  refine c_newI (rc := 4) (rs := 461) (N := 400) (k := 6) dX10_init_62 (by decide) (by decide) (by decide) rfl ?_
  refine c_putF dX10_init_64 rfl lp_X10_41 (Nat.le_of_ble_eq_true rfl) (fun _ _ => ⟨rfl, rfl⟩) ?_
  refine sw_aload_n dX10_init_67 rfl ?_
  refine sw_bipush (v := 10) dX10_init_68 (by decide) ?_
  refine c_newI (rc := 3) (rs := 451) (N := 10) (k := 7) dX10_init_70 (by decide) (by decide) (by decide) rfl ?_
  refine c_putF dX10_init_72 rfl lp_X10_44 (Nat.le_of_ble_eq_true rfl) (fun _ _ => ⟨rfl, rfl⟩) ?_
  refine sw_aload_n dX10_init_75 rfl ?_
  refine sw_sipush (v := 400) dX10_init_76 (by decide) ?_
  refine c_newI (rc := 2) (rs := 51) (N := 400) (k := 8) dX10_init_79 (by decide) (by decide) (by decide) rfl ?_
  refine c_putF dX10_init_81 rfl lp_X10_47 (Nat.le_of_ble_eq_true rfl) (fun _ _ => ⟨rfl, rfl⟩) ?_
  refine sw_aload_n dX10_init_84 rfl ?_
  refine sw_bipush (v := 11) dX10_init_85 (by decide) ?_
  refine c_newI (rc := 1) (rs := 40) (N := 11) (k := 9) dX10_init_87 (by decide) (by decide) (by decide) rfl ?_
  refine c_putF dX10_init_89 rfl lp_X10_50 (Nat.le_of_ble_eq_true rfl) (fun _ _ => ⟨rfl, rfl⟩) ?_
  refine sw_aload_n dX10_init_92 rfl ?_
  refine sw_bipush (v := 40) dX10_init_93 (by decide) ?_
  refine c_newI (rc := 0) (rs := 0) (N := 40) (k := 10) dX10_init_95 (by decide) (by decide) (by decide) rfl ?_
  refine c_putF dX10_init_97 rfl lp_X10_53 (Nat.le_of_ble_eq_true rfl) (fun _ _ => ⟨rfl, rfl⟩) ?_
  refine sw_aload_n dX10_init_100 rfl ?_
  refine sw_getf dX10_init_101 lf_X10_19 kh_at rfl ?_
  refine sw_bipush (v := 10) dX10_init_104 (by decide) ?_
  refine sw_iconst (v := 1) dX10_init_106 (by decide) ?_
  refine sw_iast (vs := ar 20 (fun _ => 0)) dX10_init_107 (kh_at1 (h0 := h0)) (by decide) (Nat.le_of_ble_eq_true rfl) ?_
  rw [show ∀ (aa : Nat × List Value) (bb : Nat × List Value) (ll : ab_H) (xx : Nat × List Value), (h0 ++ aa :: bb :: ll).set (h0.length + 1 + 0) xx = h0 ++ aa :: xx :: ll from fun _ _ _ _ => kh_set1]
  exact sw_ret (v := none) dX10_init_108 rt_v ⟨rfl, rfl⟩)
end
