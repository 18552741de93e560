section
variable {d : Nat}
def o_X8 (n : Nat) : ab_H := (8, [.ref (n + 1 + 0), .ref (n + 1 + 1), .ref (n + 1 + 2), .ref (n + 1 + 3), .ref (n + 1 + 4), .ref (n + 1 + 5)]) :: (((((([] ++ [(100, ar 10 (fun _ => 0))]) ++ [(100, ar 10 (fun _ => 0))]) ++ [(100, ar 10 (fun _ => 0))]) ++ [(100, ar 10 (fun _ => 0))]) ++ [(100, ar 10 (fun _ => 0))]) ++ o_X4 (n + 1 + 5))
theorem i_X8 (h0 : ab_H) : MSK m_X8_init (d + 1) 7 62 [.ref h0.length] (h0 ++ [(8, [.null, .null, .null, .null, .null, .null])]) (h0 ++ o_X8 h0.length) := MS.of (by decide +kernel) (Nat.le_of_ble_eq_true rfl) cw_X8_init (by
  show SW none m_X8_init (d + 1) 7 62 0 [some (.ref h0.length)] [] (h0 ++ (8, [.null, .null, .null, .null, .null, .null]) :: []) _
  refine sw_aload_n dX8_init_0 rfl ?_
  refine sw_objInit dX8_init_1 lo_X8_3 (Nat.le_of_ble_eq_true rfl) (fun _ _ => rfl) ?_
  refine sw_aload_n dX8_init_4 rfl ?_
  refine sw_bipush (v := 10) dX8_init_5 (by decide) ?_
  refine c_newI (rc := 6) (rs := 52) (N := 10) (k := 0) dX8_init_7 (by decide) (by decide) (by decide) rfl ?_
  refine c_putF dX8_init_9 rfl lp_X8_9 (Nat.le_of_ble_eq_true rfl) (fun _ _ => ⟨rfl, rfl⟩) ?_
  refine sw_aload_n dX8_init_12 rfl ?_
  refine sw_bipush (v := 10) dX8_init_13 (by decide) ?_
  refine c_newI (rc := 5) (rs := 42) (N := 10) (k := 1) dX8_init_15 (by decide) (by decide) (by decide) rfl ?_
  refine c_putF dX8_init_17 rfl lp_X8_15 (Nat.le_of_ble_eq_true rfl) (fun _ _ => ⟨rfl, rfl⟩) ?_
  refine sw_aload_n dX8_init_20 rfl ?_
  refine sw_bipush (v := 10) dX8_init_21 (by decide) ?_
  refine c_newI (rc := 4) (rs := 32) (N := 10) (k := 2) dX8_init_23 (by decide) (by decide) (by decide) rfl ?_
  refine c_putF dX8_init_25 rfl lp_X8_18 (Nat.le_of_ble_eq_true rfl) (fun _ _ => ⟨rfl, rfl⟩) ?_
  refine sw_aload_n dX8_init_28 rfl ?_
  refine sw_bipush (v := 10) dX8_init_29 (by decide) ?_
  refine c_newI (rc := 3) (rs := 22) (N := 10) (k := 3) dX8_init_31 (by decide) (by decide) (by decide) rfl ?_
  refine c_putF dX8_init_33 rfl lp_X8_21 (Nat.le_of_ble_eq_true rfl) (fun _ _ => ⟨rfl, rfl⟩) ?_
  refine sw_aload_n dX8_init_36 rfl ?_
  refine sw_bipush (v := 10) dX8_init_37 (by decide) ?_
  refine c_newI (rc := 2) (rs := 12) (N := 10) (k := 4) dX8_init_39 (by decide) (by decide) (by decide) rfl ?_
  refine c_putF dX8_init_41 rfl lp_X8_24 (Nat.le_of_ble_eq_true rfl) (fun _ _ => ⟨rfl, rfl⟩) ?_
  refine sw_aload_n dX8_init_44 rfl ?_
  refine c_sub (rc := 0) (rs := 0) (mc := 1) (ms := 10) (F := 2) (O := o_X4) (j := 5) dX8_init_45 dX8_init_48 dX8_init_49 ln_X8_27 li_X8_29 (by rfl) (fun hh => i_X4 hh) (by rfl) ?_
  refine c_putF dX8_init_52 rfl lp_X8_30 (Nat.le_of_ble_eq_true rfl) (fun _ _ => ⟨rfl, rfl⟩) ?_
  exact sw_ret (v := none) dX8_init_55 rt_v ⟨rfl, rfl⟩)
def o_X6 (n : Nat) : ab_H := (6, [.ref (n + 1 + 0), .ref (n + 1 + 2), .ref (n + 1 + 5), .int 0, .int 0, .int 0, .int 0, .int 0]) :: ((([] ++ o_X0 (n + 1 + 0)) ++ o_X3 (n + 1 + 2)) ++ o_X1 (n + 1 + 5))
theorem i_X6 (h0 : ab_H) : MSK m_X6_init (d + 2) 7 436 [.ref h0.length] (h0 ++ [(6, [.null, .null, .null, .int 0, .int 0, .int 0, .int 0, .int 0])]) (h0 ++ o_X6 h0.length) := MS.of (by decide +kernel) (Nat.le_of_ble_eq_true rfl) cw_X6_init (by
  show SW none m_X6_init (d + 2) 7 436 0 [some (.ref h0.length)] [] (h0 ++ (6, [.null, .null, .null, .int 0, .int 0, .int 0, .int 0, .int 0]) :: []) _
  refine sw_aload_n dX6_init_0 rfl ?_
  refine sw_objInit dX6_init_1 lo_X6_3 (Nat.le_of_ble_eq_true rfl) (fun _ _ => rfl) ?_
  refine sw_aload_n dX6_init_4 rfl ?_
  refine c_sub (rc := 5) (rs := 34) (mc := 1) (ms := 400) (F := 2) (O := o_X0) (j := 0) dX6_init_5 dX6_init_8 dX6_init_9 ln_X6_9 li_X6_11 (by rfl) (fun hh => i_X0 hh) (by rfl) ?_
  refine c_putF dX6_init_12 rfl lp_X6_12 (Nat.le_of_ble_eq_true rfl) (fun _ _ => ⟨rfl, rfl⟩) ?_
  refine sw_aload_n dX6_init_15 rfl ?_
  refine c_sub (rc := 2) (rs := 11) (mc := 2) (ms := 20) (F := 3) (O := o_X3) (j := 2) dX6_init_16 dX6_init_19 dX6_init_20 ln_X6_18 li_X6_20 (by rfl) (fun hh => i_X3 hh) (by rfl) ?_
  refine c_putF dX6_init_23 rfl lp_X6_21 (Nat.le_of_ble_eq_true rfl) (fun _ _ => ⟨rfl, rfl⟩) ?_
  refine sw_aload_n dX6_init_26 rfl ?_
  refine c_sub (rc := 0) (rs := 0) (mc := 1) (ms := 10) (F := 1) (O := o_X1) (j := 5) dX6_init_27 dX6_init_30 dX6_init_31 ln_X6_25 li_X6_27 (by rfl) (fun hh => i_X1 hh) (by rfl) ?_
  refine c_putF dX6_init_34 rfl lp_X6_28 (Nat.le_of_ble_eq_true rfl) (fun _ _ => ⟨rfl, rfl⟩) ?_
  exact sw_ret (v := none) dX6_init_37 rt_v ⟨rfl, rfl⟩)
def o_X7 (n : Nat) : ab_H := (7, [.ref (n + 1 + 0), .ref (n + 1 + 8), .ref (n + 1 + 11), .ref (n + 1 + 13), .ref (n + 1 + 21)]) :: ((((([] ++ gr_ (n + 1 + 0) 7 3) ++ o_X3 (n + 1 + 8)) ++ o_X1 (n + 1 + 11)) ++ o_X8 (n + 1 + 13)) ++ o_X4 (n + 1 + 21))
theorem i_X7 (h0 : ab_H) : MSK m_X7_init (d + 2) 23 142 [.ref h0.length] (h0 ++ [(7, [.null, .null, .null, .null, .null])]) (h0 ++ o_X7 h0.length) := MS.of (by decide +kernel) (Nat.le_of_ble_eq_true rfl) cw_X7_init (by
  show SW none m_X7_init (d + 2) 23 142 0 [some (.ref h0.length)] [] (h0 ++ (7, [.null, .null, .null, .null, .null]) :: []) _
  refine sw_aload_n dX7_init_0 rfl ?_
  refine sw_objInit dX7_init_1 lo_X7_3 (Nat.le_of_ble_eq_true rfl) (fun _ _ => rfl) ?_
  refine sw_aload_n dX7_init_4 rfl ?_
  refine sw_bipush (v := 7) dX7_init_5 (by decide) ?_
  refine sw_iconst (v := 3) dX7_init_7 (by decide) ?_
  refine c_grid (rc := 15) (rs := 114) (N := 7) (K := 3) (j := 0) dX7_init_8 (ab_t1 187 (by decide +kernel) rfl) (by decide) (by decide) (by decide) (by decide) (by decide) (by decide) rfl ?_
  refine c_putF dX7_init_12 rfl lp_X7_11 (Nat.le_of_ble_eq_true rfl) (fun _ _ => ⟨rfl, rfl⟩) ?_
  refine sw_aload_n dX7_init_15 rfl ?_
  refine c_sub (rc := 12) (rs := 91) (mc := 2) (ms := 20) (F := 3) (O := o_X3) (j := 8) dX7_init_16 dX7_init_19 dX7_init_20 ln_X7_16 li_X7_18 (by rfl) (fun hh => i_X3 hh) (by rfl) ?_
  refine c_putF dX7_init_23 rfl lp_X7_19 (Nat.le_of_ble_eq_true rfl) (fun _ _ => ⟨rfl, rfl⟩) ?_
  refine sw_aload_n dX7_init_26 rfl ?_
  refine c_sub (rc := 10) (rs := 80) (mc := 1) (ms := 10) (F := 1) (O := o_X1) (j := 11) dX7_init_27 dX7_init_30 dX7_init_31 ln_X7_23 li_X7_25 (by rfl) (fun hh => i_X1 hh) (by rfl) ?_
  refine c_putF dX7_init_34 rfl lp_X7_26 (Nat.le_of_ble_eq_true rfl) (fun _ _ => ⟨rfl, rfl⟩) ?_
  refine sw_aload_n dX7_init_37 rfl ?_
  refine c_sub (rc := 2) (rs := 12) (mc := 7) (ms := 62) (F := 6) (O := o_X8) (j := 13) dX7_init_38 dX7_init_41 dX7_init_42 ln_X7_30 li_X7_32 (by rfl) (fun hh => i_X8 hh) (by rfl) ?_
  refine c_putF dX7_init_45 rfl lp_X7_33 (Nat.le_of_ble_eq_true rfl) (fun _ _ => ⟨rfl, rfl⟩) ?_
  refine sw_aload_n dX7_init_48 rfl ?_
  refine c_sub (rc := 0) (rs := 0) (mc := 1) (ms := 10) (F := 2) (O := o_X4) (j := 21) dX7_init_49 dX7_init_52 dX7_init_53 ln_X7_37 li_X7_39 (by rfl) (fun hh => i_X4 hh) (by rfl) ?_
  refine c_putF dX7_init_56 rfl lp_X7_40 (Nat.le_of_ble_eq_true rfl) (fun _ _ => ⟨rfl, rfl⟩) ?_
  exact sw_ret (v := none) dX7_init_59 rt_v ⟨rfl, rfl⟩)
end
