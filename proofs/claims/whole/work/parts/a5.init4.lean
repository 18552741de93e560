section
variable {d : Nat}
def o_X10 (n : Nat) : ab_H := (10, [.int 0, .ref (n + 1 + 0), .ref (n + 1 + 1), .ref (n + 1 + 2), .ref (n + 1 + 3), .ref (n + 1 + 4), .int 1, .int 0, .int 0, .int 0, .int 0, .ref (n + 1 + 5), .ref (n + 1 + 6), .int 0, .int 0, .int 0, .int 0, .int 0, .int 0, .int 0, .int 0, .int 0, .ref (n + 1 + 7), .ref (n + 1 + 8), .int 0, .ref (n + 1 + 9), .ref (n + 1 + 10)]) :: ((((((((((([] ++ [(100, (ar 20 (fun _ => 0)).set (10 : Int32).toNatClampNeg (.int 1))]) ++ [(100, ar 20 (fun _ => 0))]) ++ [(100, ar 160 (fun _ => 0))]) ++ [(100, ar 60 (fun _ => 0))]) ++ [(100, ar 10 (fun _ => 0))]) ++ [(100, ar 121 (fun _ => 0))]) ++ [(100, ar 400 (fun _ => 0))]) ++ [(100, ar 10 (fun _ => 0))]) ++ [(100, ar 400 (fun _ => 0))]) ++ [(100, ar 11 (fun _ => 0))]) ++ [(100, ar 40 (fun _ => 0))])
theorem i_X10 (h0 : ab_H) : MSK m_X10_init d 11 1252 [.ref h0.length] (h0 ++ [(10, [.int 0, .null, .null, .null, .null, .null, .int 0, .int 0, .int 0, .int 0, .int 0, .null, .null, .int 0, .int 0, .int 0, .int 0, .int 0, .int 0, .int 0, .int 0, .int 0, .null, .null, .int 0, .null, .null])]) (h0 ++ o_X10 h0.length) := MS.of (by decide +kernel) (Nat.le_of_ble_eq_true rfl) cw_X10_init (by
  show SW none m_X10_init d 11 1252 0 [some (.ref h0.length)] [] (h0 ++ (10, [.int 0, .null, .null, .null, .null, .null, .int 0, .int 0, .int 0, .int 0, .int 0, .null, .null, .int 0, .int 0, .int 0, .int 0, .int 0, .int 0, .int 0, .int 0, .int 0, .null, .null, .int 0, .null, .null]) :: []) _
  refine sw_aload_n dX10_init_0 rfl ?_
  refine sw_objInit dX10_init_1 lo_X10_13 (Nat.le_of_ble_eq_true rfl) (fun _ _ => rfl) ?_
  refine sw_aload_n dX10_init_4 rfl ?_
  refine sw_bipush (v := 20) dX10_init_5 (by decide) ?_
  refine c_newI (rc := 10) (rs := 1232) (N := 20) (k := 0) dX10_init_7 (by decide) (by decide) (by decide) rfl ?_
  refine c_putF dX10_init_9 rfl lp_X10_19 (Nat.le_of_ble_eq_true rfl) (fun _ _ => ⟨rfl, rfl⟩) ?_
  refine sw_aload_n dX10_init_12 rfl ?_
  refine sw_bipush (v := 20) dX10_init_13 (by decide) ?_
  refine c_newI (rc := 9) (rs := 1212) (N := 20) (k := 1) dX10_init_15 (by decide) (by decide) (by decide) rfl ?_
  refine c_putF dX10_init_17 rfl lp_X10_23 (Nat.le_of_ble_eq_true rfl) (fun _ _ => ⟨rfl, rfl⟩) ?_
  refine sw_aload_n dX10_init_20 rfl ?_
  refine sw_sipush (v := 160) dX10_init_21 (by decide) ?_
  refine c_newI (rc := 8) (rs := 1052) (N := 160) (k := 2) dX10_init_24 (by decide) (by decide) (by decide) rfl ?_
  refine c_putF dX10_init_26 rfl lp_X10_26 (Nat.le_of_ble_eq_true rfl) (fun _ _ => ⟨rfl, rfl⟩) ?_
  refine sw_aload_n dX10_init_29 rfl ?_
  refine sw_bipush (v := 60) dX10_init_30 (by decide) ?_
  refine c_newI (rc := 7) (rs := 992) (N := 60) (k := 3) dX10_init_32 (by decide) (by decide) (by decide) rfl ?_
  refine c_putF dX10_init_34 rfl lp_X10_29 (Nat.le_of_ble_eq_true rfl) (fun _ _ => ⟨rfl, rfl⟩) ?_
  refine sw_aload_n dX10_init_37 rfl ?_
  refine sw_bipush (v := 10) dX10_init_38 (by decide) ?_
  refine c_newI (rc := 6) (rs := 982) (N := 10) (k := 4) dX10_init_40 (by decide) (by decide) (by decide) rfl ?_
  refine c_putF dX10_init_42 rfl lp_X10_32 (Nat.le_of_ble_eq_true rfl) (fun _ _ => ⟨rfl, rfl⟩) ?_
  refine sw_aload_n dX10_init_45 rfl ?_
  refine sw_iconst (v := 1) dX10_init_46 (by decide) ?_
  refine c_putf dX10_init_47 lp_X10_35 (Nat.le_of_ble_eq_true rfl) (fun _ _ => ⟨rfl, rfl⟩) ?_
  refine sw_aload_n dX10_init_50 rfl ?_
  refine sw_bipush (v := 121) dX10_init_51 (by decide) ?_
  refine c_newI (rc := 5) (rs := 861) (N := 121) (k := 5) dX10_init_53 (by decide) (by decide) (by decide) rfl ?_
  refine c_putF dX10_init_55 rfl lp_X10_38 (Nat.le_of_ble_eq_true rfl) (fun _ _ => ⟨rfl, rfl⟩) ?_
  refine sw_aload_n dX10_init_58 rfl ?_
  refine sw_sipush (v := 400) dX10_init_59 (by decide) ?_
  refine c_newI (rc := 4) (rs := 461) (N := 400) (k := 6) dX10_init_62 (by decide) (by decide) (by decide) rfl ?_
  refine c_putF dX10_init_64 rfl lp_X10_41 (Nat.le_of_ble_eq_true rfl) (fun _ _ => ⟨rfl, rfl⟩) ?_
  refine sw_aload_n dX10_init_67 rfl ?_
  refine sw_bipush (v := 10) dX10_init_68 (by decide) ?_
  refine c_newI (rc := 3) (rs := 451) (N := 10) (k := 7) dX10_init_70 (by decide) (by decide) (by decide) rfl ?_
  refine c_putF dX10_init_72 rfl lp_X10_44 (Nat.le_of_ble_eq_true rfl) (fun _ _ => ⟨rfl, rfl⟩) ?_
  refine sw_aload_n dX10_init_75 rfl ?_
  refine sw_sipush (v := 400) dX10_init_76 (by decide) ?_
  refine c_newI (rc := 2) (rs := 51) (N := 400) (k := 8) dX10_init_79 (by decide) (by decide) (by decide) rfl ?_
  refine c_putF dX10_init_81 rfl lp_X10_47 (Nat.le_of_ble_eq_true rfl) (fun _ _ => ⟨rfl, rfl⟩) ?_
  refine sw_aload_n dX10_init_84 rfl ?_
  refine sw_bipush (v := 11) dX10_init_85 (by decide) ?_
  refine c_newI (rc := 1) (rs := 40) (N := 11) (k := 9) dX10_init_87 (by decide) (by decide) (by decide) rfl ?_
  refine c_putF dX10_init_89 rfl lp_X10_50 (Nat.le_of_ble_eq_true rfl) (fun _ _ => ⟨rfl, rfl⟩) ?_
  refine sw_aload_n dX10_init_92 rfl ?_
  refine sw_bipush (v := 40) dX10_init_93 (by decide) ?_
  refine c_newI (rc := 0) (rs := 0) (N := 40) (k := 10) dX10_init_95 (by decide) (by decide) (by decide) rfl ?_
  refine c_putF dX10_init_97 rfl lp_X10_53 (Nat.le_of_ble_eq_true rfl) (fun _ _ => ⟨rfl, rfl⟩) ?_
  refine sw_aload_n dX10_init_100 rfl ?_
  refine sw_getf dX10_init_101 lf_X10_19 kh_at rfl ?_
  refine sw_bipush (v := 10) dX10_init_104 (by decide) ?_
  refine sw_iconst (v := 1) dX10_init_106 (by decide) ?_
  refine c_iast (vs := ar 20 (fun _ => 0)) dX10_init_107 rfl (by decide) (Nat.le_of_ble_eq_true rfl) ?_
  exact sw_ret (v := none) dX10_init_108 rt_v ⟨rfl, rfl⟩)
end
