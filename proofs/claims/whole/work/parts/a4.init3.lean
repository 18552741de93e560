section
variable {d : Nat}
def o_X9 (n : Nat) : ab_H := (9, [.ref (n + 1 + 0), .ref (n + 1 + 8), .ref (n + 1 + 10), .ref (n + 1 + 13), .ref (n + 1 + 16), .ref (n + 1 + 18), .ref (n + 1 + 26), .ref (n + 1 + 30), .ref (n + 1 + 54), .ref (n + 1 + 68)]) :: (((((((((([] ++ o_X6 (n + 1 + 0)) ++ o_X0 (n + 1 + 8)) ++ o_X3 (n + 1 + 10)) ++ o_X3 (n + 1 + 13)) ++ o_X1 (n + 1 + 16)) ++ o_X8 (n + 1 + 18)) ++ o_X2 (n + 1 + 26)) ++ o_X7 (n + 1 + 30)) ++ o_X5 (n + 1 + 54)) ++ [(100, ar 10 (fun _ => 0))])
theorem i_X9 (h0 : ab_H) : MSK m_X9_init (d + 3) 69 1400 [.ref h0.length] (h0 ++ [(9, [.null, .null, .null, .null, .null, .null, .null, .null, .null, .null])]) (h0 ++ o_X9 h0.length) := MS.of (by decide +kernel) (Nat.le_of_ble_eq_true rfl) cw_X9_init (by
  show SW none m_X9_init (d + 3) 69 1400 0 [some (.ref h0.length)] [] (h0 ++ (9, [.null, .null, .null, .null, .null, .null, .null, .null, .null, .null]) :: []) _
  refine sw_aload_n dX9_init_0 rfl ?_
  refine sw_objInit dX9_init_1 lo_X9_3 (Nat.le_of_ble_eq_true rfl) (fun _ _ => rfl) ?_
  refine sw_aload_n dX9_init_4 rfl ?_
  refine c_sub (rc := 61) (rs := 956) (mc := 7) (ms := 436) (F := 8) (O := o_X6) (j := 0) dX9_init_5 dX9_init_8 dX9_init_9 ln_X9_9 li_X9_11 (by rfl) (fun hh => i_X6 hh) (by rfl) ?_
  refine c_putF dX9_init_12 rfl lp_X9_12 (Nat.le_of_ble_eq_true rfl) (fun _ _ => ⟨rfl, rfl⟩) ?_
  refine sw_aload_n dX9_init_15 rfl ?_
  refine c_sub (rc := 59) (rs := 554) (mc := 1) (ms := 400) (F := 2) (O := o_X0) (j := 8) dX9_init_16 dX9_init_19 dX9_init_20 ln_X9_16 li_X9_18 (by rfl) (fun hh => i_X0 hh) (by rfl) ?_
  refine c_putF dX9_init_23 rfl lp_X9_19 (Nat.le_of_ble_eq_true rfl) (fun _ _ => ⟨rfl, rfl⟩) ?_
  refine sw_aload_n dX9_init_26 rfl ?_
  refine c_sub (rc := 56) (rs := 531) (mc := 2) (ms := 20) (F := 3) (O := o_X3) (j := 10) dX9_init_27 dX9_init_30 dX9_init_31 ln_X9_23 li_X9_25 (by rfl) (fun hh => i_X3 hh) (by rfl) ?_
  refine c_putF dX9_init_34 rfl lp_X9_26 (Nat.le_of_ble_eq_true rfl) (fun _ _ => ⟨rfl, rfl⟩) ?_
  refine sw_aload_n dX9_init_37 rfl ?_
  refine c_sub (rc := 53) (rs := 508) (mc := 2) (ms := 20) (F := 3) (O := o_X3) (j := 13) dX9_init_38 dX9_init_41 dX9_init_42 ln_X9_23 li_X9_25 (by rfl) (fun hh => i_X3 hh) (by rfl) ?_
  refine c_putF dX9_init_45 rfl lp_X9_30 (Nat.le_of_ble_eq_true rfl) (fun _ _ => ⟨rfl, rfl⟩) ?_
  refine sw_aload_n dX9_init_48 rfl ?_
  refine c_sub (rc := 51) (rs := 497) (mc := 1) (ms := 10) (F := 1) (O := o_X1) (j := 16) dX9_init_49 dX9_init_52 dX9_init_53 ln_X9_33 li_X9_35 (by rfl) (fun hh => i_X1 hh) (by rfl) ?_
  refine c_putF dX9_init_56 rfl lp_X9_36 (Nat.le_of_ble_eq_true rfl) (fun _ _ => ⟨rfl, rfl⟩) ?_
  refine sw_aload_n dX9_init_59 rfl ?_
  refine c_sub (rc := 43) (rs := 429) (mc := 7) (ms := 62) (F := 6) (O := o_X8) (j := 18) dX9_init_60 dX9_init_63 dX9_init_64 ln_X9_40 li_X9_42 (by rfl) (fun hh => i_X8 hh) (by rfl) ?_
  refine c_putF dX9_init_67 rfl lp_X9_43 (Nat.le_of_ble_eq_true rfl) (fun _ _ => ⟨rfl, rfl⟩) ?_
  refine sw_aload_n dX9_init_70 rfl ?_
  refine c_sub (rc := 39) (rs := 393) (mc := 3) (ms := 33) (F := 3) (O := o_X2) (j := 26) dX9_init_71 dX9_init_74 dX9_init_75 ln_X9_47 li_X9_49 (by rfl) (fun hh => i_X2 hh) (by rfl) ?_
  refine c_putF dX9_init_78 rfl lp_X9_50 (Nat.le_of_ble_eq_true rfl) (fun _ _ => ⟨rfl, rfl⟩) ?_
  refine sw_aload_n dX9_init_81 rfl ?_
  refine c_sub (rc := 15) (rs := 246) (mc := 23) (ms := 142) (F := 5) (O := o_X7) (j := 30) dX9_init_82 dX9_init_85 dX9_init_86 ln_X9_54 li_X9_56 (by rfl) (fun hh => i_X7 hh) (by rfl) ?_
  refine c_putF dX9_init_89 rfl lp_X9_57 (Nat.le_of_ble_eq_true rfl) (fun _ _ => ⟨rfl, rfl⟩) ?_
  refine sw_aload_n dX9_init_92 rfl ?_
  refine c_sub (rc := 1) (rs := 10) (mc := 13) (ms := 231) (F := 5) (O := o_X5) (j := 54) dX9_init_93 dX9_init_96 dX9_init_97 ln_X9_61 li_X9_63 (by rfl) (fun hh => i_X5 hh) (by rfl) ?_
  refine c_putF dX9_init_100 rfl lp_X9_64 (Nat.le_of_ble_eq_true rfl) (fun _ _ => ⟨rfl, rfl⟩) ?_
  refine sw_aload_n dX9_init_103 rfl ?_
  refine sw_bipush (v := 10) dX9_init_104 (by decide) ?_
  refine c_newI (rc := 0) (rs := 0) (N := 10) (k := 68) dX9_init_106 (by decide) (by decide) (by decide) rfl ?_
  refine c_putF dX9_init_108 rfl lp_X9_68 (Nat.le_of_ble_eq_true rfl) (fun _ _ => ⟨rfl, rfl⟩) ?_
  exact sw_ret (v := none) dX9_init_111 rt_v ⟨rfl, rfl⟩)
end
