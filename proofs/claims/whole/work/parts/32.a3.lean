section
variable {sc : Option (List Int32)} {d rc rs : Nat} {h : ab_H} {P : ab_O → ab_H → Prop}
theorem b_X3_withNeighbors_29 {r0 : Nat} {l1 : Int32} {l2 : Int32} {l3 : Int32} (k : SW sc m_X3_withNeighbors d rc rs 4 [some (.ref r0), some (.int l1), some (.int l2), some (.int (l3 + 1))] [] h P) : SW sc m_X3_withNeighbors d rc rs 29 [some (.ref r0), some (.int l1), some (.int l2), some (.int l3)] [] h P := by
  refine sw_iinc (v := l3 + 1) dX3_withNeighbors_29 rfl rfl (by decide) rfl ?_
  show SW sc m_X3_withNeighbors _ _ _ 32 [some (.ref r0), some (.int l1), some (.int l2), some (.int (l3 + 1))] [] h P
  exact sw_goto dX3_withNeighbors_32 (by decide) (k)
theorem b_X3_withNeighbors_35 {l2 : Int32} (hP : P (.inl (some (.int l2))) h) : SW sc m_X3_withNeighbors d rc rs 35 [none, none, some (.int l2), none] [] h P := by
  refine sw_iload_n dX3_withNeighbors_35 rfl ?_
  exact sw_ret (v := (some (.int l2))) dX3_withNeighbors_36 rt_i hP
theorem b_X3_reachable_0 {r0 : Nat} {l1 : Int32} {l2 : Int32} (k : SW sc m_X3_reachable d rc rs 7 [some (.ref r0), none, some (.int l2), some (.int (1 <<< (l1 &&& 31))), some (.int 0), none] [] h P) : SW sc m_X3_reachable d rc rs 0 [some (.ref r0), some (.int l1), some (.int l2), none, none, none] [] h P := by
  refine sw_iconst (v := 1) dX3_reachable_0 (by decide) ?_
  refine sw_iload_n dX3_reachable_1 rfl ?_
  refine sw_ishl dX3_reachable_2 ?_
  refine sw_istore_n dX3_reachable_3 (by decide) rfl ?_
  show SW sc m_X3_reachable _ _ _ 4 [some (.ref r0), some (.int l1), some (.int l2), some (.int (1 <<< (l1 &&& 31))), none, none] [] h P
  refine sw_iconst (v := 0) dX3_reachable_4 (by decide) ?_
  refine sw_istore dX3_reachable_5 (by decide) rfl ?_
  show SW sc m_X3_reachable _ _ _ 7 [some (.ref r0), some (.int l1), some (.int l2), some (.int (1 <<< (l1 &&& 31))), some (.int 0), none] [] h P
  exact (sw_fg [false, true, false, false, false, false] rfl (k))
theorem b_X3_reachable_7 {r0 : Nat} {l2 : Int32} {l3 : Int32} {l4 : Int32} {fs3 : List Value} {x3 : Int32} (hc3 : (h)[r0]? = some (3, fs3)) (hv3 : fs3[2]? = some (.int x3)) (kt : x3 ≤ l4 → SW sc m_X3_reachable d rc rs 42 [none, none, none, some (.int l3), none, none] [] h P) (kf : ¬ (x3 ≤ l4) → SW sc m_X3_reachable d rc rs 16 [some (.ref r0), none, some (.int l2), some (.int l3), some (.int l4), none] [] h P) : SW sc m_X3_reachable d rc rs 7 [some (.ref r0), none, some (.int l2), some (.int l3), some (.int l4), none] [] h P := by
  refine sw_iload dX3_reachable_7 rfl ?_
  refine sw_aload_n dX3_reachable_9 rfl ?_
  refine sw_getf dX3_reachable_10 lf_X3_18 hc3 hv3 ?_
  exact sw_icmp_ge dX3_reachable_13 (by decide) (fun q => (sw_fg [true, false, true, false, true, false] rfl (kt q))) (fun q => (kf q))
theorem b_X3_reachable_16 {r0 : Nat} {l2 : Int32} {l3 : Int32} {l4 : Int32} {v3 : Int32} {g3 : ab_H} {fs3 : List Value} (hr3 : (h)[r0]? = some (3, fs3)) (hm3 : MSE m_X3_withNeighbors d [.ref r0, .int l3] h (some (.int v3)) g3) (kt : ¬ (v3 &&& l2) = l3 → SW sc m_X3_reachable (d + 1) rc rs 33 [some (.ref r0), none, some (.int l2), none, some (.int l4), some (.int (v3 &&& l2))] [] g3 P) (kf : (v3 &&& l2) = l3 → SW sc m_X3_reachable (d + 1) rc rs 31 [none, none, none, some (.int l3), none, none] [] g3 P) : SW sc m_X3_reachable (d + 1) rc rs 16 [some (.ref r0), none, some (.int l2), some (.int l3), some (.int l4), none] [] h P := by
  refine sw_aload_n dX3_reachable_16 rfl ?_
  refine sw_iload_n dX3_reachable_17 rfl ?_
  refine sw_cV (M := m_X3_reachable) dX3_reachable_18 lv_X3_72 hm3 hr3 rfl (by decide) rfl rfl rfl (Nat.le_of_ble_eq_true rfl) (fun _ _ => rfl) rfl ?_
  show SW sc m_X3_reachable _ _ _ 21 [some (.ref r0), none, some (.int l2), some (.int l3), some (.int l4), none] [.int v3] g3 P
  refine sw_iload_n dX3_reachable_21 rfl ?_
  refine sw_iand dX3_reachable_22 ?_
  refine sw_istore dX3_reachable_23 (by decide) rfl ?_
  show SW sc m_X3_reachable _ _ _ 25 [some (.ref r0), none, some (.int l2), some (.int l3), some (.int l4), some (.int (v3 &&& l2))] [] g3 P
  refine sw_iload dX3_reachable_25 rfl ?_
  refine sw_iload_n dX3_reachable_27 rfl ?_
  exact sw_icmp_ne dX3_reachable_28 (by decide) (fun q => (sw_fg [false, false, false, true, false, false] rfl (kt q))) (fun q => (sw_fg [true, false, true, false, true, true] rfl (kf q)))
theorem b_X3_reachable_31 {l3 : Int32} (hP : P (.inl (some (.int l3))) h) : SW sc m_X3_reachable d rc rs 31 [none, none, none, some (.int l3), none, none] [] h P := by
  refine sw_iload_n dX3_reachable_31 rfl ?_
  exact sw_ret (v := (some (.int l3))) dX3_reachable_32 rt_i hP
theorem b_X3_reachable_33 {r0 : Nat} {l2 : Int32} {l4 : Int32} {l5 : Int32} (k : SW sc m_X3_reachable d rc rs 7 [some (.ref r0), none, some (.int l2), some (.int l5), some (.int (l4 + 1)), none] [] h P) : SW sc m_X3_reachable d rc rs 33 [some (.ref r0), none, some (.int l2), none, some (.int l4), some (.int l5)] [] h P := by
  refine sw_iload dX3_reachable_33 rfl ?_
  refine sw_istore_n dX3_reachable_35 (by decide) rfl ?_
  show SW sc m_X3_reachable _ _ _ 36 [some (.ref r0), none, some (.int l2), some (.int l5), some (.int l4), some (.int l5)] [] h P
  refine sw_iinc (v := l4 + 1) dX3_reachable_36 rfl rfl (by decide) rfl ?_
  show SW sc m_X3_reachable _ _ _ 39 [some (.ref r0), none, some (.int l2), some (.int l5), some (.int (l4 + 1)), some (.int l5)] [] h P
  exact sw_goto dX3_reachable_39 (by decide) (sw_fg [false, false, false, false, false, true] rfl (k))
theorem b_X3_reachable_42 {l3 : Int32} (hP : P (.inl (some (.int l3))) h) : SW sc m_X3_reachable d rc rs 42 [none, none, none, some (.int l3), none, none] [] h P := by
  refine sw_iload_n dX3_reachable_42 rfl ?_
  exact sw_ret (v := (some (.int l3))) dX3_reachable_43 rt_i hP
theorem b_X3_componentWith_0 {r0 : Nat} {l1 : Int32} {v4 : Int32} {g4 : ab_H} {fs4 : List Value} {v5 : Int32} {g5 : ab_H} {fs5 : List Value} (hr4 : (h)[r0]? = some (3, fs4)) (hm4 : MSE m_X3_all d [.ref r0] h (some (.int v4)) g4) (hr5 : (g4)[r0]? = some (3, fs5)) (hm5 : MSE m_X3_reachable d [.ref r0, .int l1, .int v4] g4 (some (.int v5)) g5) (hP : P (.inl (some (.int v5))) g5) : SW sc m_X3_componentWith (d + 1) rc rs 0 [some (.ref r0), some (.int l1)] [] h P := by
  refine sw_aload_n dX3_componentWith_0 rfl ?_
  refine sw_iload_n dX3_componentWith_1 rfl ?_
  refine sw_aload_n dX3_componentWith_2 rfl ?_
  refine sw_cV (M := m_X3_componentWith) dX3_componentWith_3 lv_X3_61 hm4 hr4 rfl (by decide) rfl rfl rfl (Nat.le_of_ble_eq_true rfl) (fun _ _ => rfl) rfl ?_
  show SW sc m_X3_componentWith _ _ _ 6 [some (.ref r0), some (.int l1)] [.int v4, .int l1, .ref r0] g4 P
  refine sw_cV (M := m_X3_componentWith) dX3_componentWith_6 lv_X3_75 hm5 hr5 rfl (by decide) rfl rfl rfl (Nat.le_of_ble_eq_true rfl) (fun _ _ => rfl) rfl ?_
  show SW sc m_X3_componentWith _ _ _ 9 [some (.ref r0), some (.int l1)] [.int v5] g5 P
  exact sw_ret (v := (some (.int v5))) dX3_componentWith_9 rt_i hP
theorem b_X3_componentSet_0 {r0 : Nat} {l1 : Int32} {v2 : Int32} {g2 : ab_H} {fs2 : List Value} (hr2 : (h)[r0]? = some (3, fs2)) (hm2 : MSE m_X3_all d [.ref r0] h (some (.int v2)) g2) (k : SW sc m_X3_componentSet (d + 1) rc rs 10 [some (.ref r0), some (.int l1), some (.int v2), some (.int 0), some (.int 0), none] [] g2 P) : SW sc m_X3_componentSet (d + 1) rc rs 0 [some (.ref r0), some (.int l1), none, none, none, none] [] h P := by
  refine sw_aload_n dX3_componentSet_0 rfl ?_
  refine sw_cV (M := m_X3_componentSet) dX3_componentSet_1 lv_X3_61 hm2 hr2 rfl (by decide) rfl rfl rfl (Nat.le_of_ble_eq_true rfl) (fun _ _ => rfl) rfl ?_
  show SW sc m_X3_componentSet _ _ _ 4 [some (.ref r0), some (.int l1), none, none, none, none] [.int v2] g2 P
  refine sw_istore_n dX3_componentSet_4 (by decide) rfl ?_
  show SW sc m_X3_componentSet _ _ _ 5 [some (.ref r0), some (.int l1), some (.int v2), none, none, none] [] g2 P
  refine sw_iconst (v := 0) dX3_componentSet_5 (by decide) ?_
  refine sw_istore_n dX3_componentSet_6 (by decide) rfl ?_
  show SW sc m_X3_componentSet _ _ _ 7 [some (.ref r0), some (.int l1), some (.int v2), some (.int 0), none, none] [] g2 P
  refine sw_iconst (v := 0) dX3_componentSet_7 (by decide) ?_
  refine sw_istore dX3_componentSet_8 (by decide) rfl ?_
  show SW sc m_X3_componentSet _ _ _ 10 [some (.ref r0), some (.int l1), some (.int v2), some (.int 0), some (.int 0), none] [] g2 P
  exact (k)
theorem b_X3_componentSet_10 {r0 : Nat} {l1 : Int32} {l2 : Int32} {l3 : Int32} {l4 : Int32} {fs3 : List Value} {x3 : Int32} (hc3 : (h)[r0]? = some (3, fs3)) (hv3 : fs3[2]? = some (.int x3)) (kt : x3 ≤ l4 → SW sc m_X3_componentSet d rc rs 60 [none, none, none, none, none, none] [] h P) (kf : ¬ (x3 ≤ l4) → SW sc m_X3_componentSet d rc rs 19 [some (.ref r0), some (.int l1), some (.int l2), some (.int l3), some (.int l4), none] [] h P) : SW sc m_X3_componentSet d rc rs 10 [some (.ref r0), some (.int l1), some (.int l2), some (.int l3), some (.int l4), none] [] h P := by
  refine sw_iload dX3_componentSet_10 rfl ?_
  refine sw_aload_n dX3_componentSet_12 rfl ?_
  refine sw_getf dX3_componentSet_13 lf_X3_18 hc3 hv3 ?_
  exact sw_icmp_ge dX3_componentSet_16 (by decide) (fun q => (sw_fg [true, true, true, true, true, false] rfl (kt q))) (fun q => (kf q))
theorem b_X3_componentSet_19 {r0 : Nat} {l1 : Int32} {l2 : Int32} {l3 : Int32} {l4 : Int32} {v3 : Int32} {g3 : ab_H} (hm3 : MSE m_X9_holds d [.int l2, .int l4] h (some (.int v3)) g3) (kt : v3 = 0 → SW sc m_X3_componentSet (d + 1) rc rs 54 [some (.ref r0), some (.int l1), some (.int l2), some (.int l3), some (.int l4), none] [] g3 P) (kf : ¬ (v3 = 0) → SW sc m_X3_componentSet (d + 1) rc rs 28 [some (.ref r0), some (.int l1), some (.int l2), some (.int l3), some (.int l4), none] [] g3 P) : SW sc m_X3_componentSet (d + 1) rc rs 19 [some (.ref r0), some (.int l1), some (.int l2), some (.int l3), some (.int l4), none] [] h P := by
  refine sw_iload_n dX3_componentSet_19 rfl ?_
  refine sw_iload dX3_componentSet_20 rfl ?_
  refine sw_cS (M := m_X3_componentSet) dX3_componentSet_22 ls_X3_50 hm3 rfl rfl (Nat.le_of_ble_eq_true rfl) (fun _ _ => rfl) rfl ?_
  show SW sc m_X3_componentSet _ _ _ 25 [some (.ref r0), some (.int l1), some (.int l2), some (.int l3), some (.int l4), none] [.int v3] g3 P
  exact sw_if_eq dX3_componentSet_25 (by decide) (fun q => (kt q)) (fun q => (kf q))
theorem b_X3_componentSet_28 {r0 : Nat} {l1 : Int32} {l2 : Int32} {l3 : Int32} {l4 : Int32} {v3 : Int32} {g3 : ab_H} {fs3 : List Value} (hr3 : (h)[r0]? = some (3, fs3)) (hm3 : MSE m_X3_componentWith d [.ref r0, .int l4] h (some (.int v3)) g3) (kt : ¬ l3 = l1 → SW sc m_X3_componentSet (d + 1) rc rs 44 [some (.ref r0), some (.int l1), some (.int l2), some (.int l3), some (.int l4), some (.int v3)] [] g3 P) (kf : l3 = l1 → SW sc m_X3_componentSet (d + 1) rc rs 41 [none, none, none, none, none, some (.int v3)] [] g3 P) : SW sc m_X3_componentSet (d + 1) rc rs 28 [some (.ref r0), some (.int l1), some (.int l2), some (.int l3), some (.int l4), none] [] h P := by
  refine sw_aload_n dX3_componentSet_28 rfl ?_
  refine sw_iload dX3_componentSet_29 rfl ?_
  refine sw_cV (M := m_X3_componentSet) dX3_componentSet_31 lv_X3_78 hm3 hr3 rfl (by decide) rfl rfl rfl (Nat.le_of_ble_eq_true rfl) (fun _ _ => rfl) rfl ?_
  show SW sc m_X3_componentSet _ _ _ 34 [some (.ref r0), some (.int l1), some (.int l2), some (.int l3), some (.int l4), none] [.int v3] g3 P
  refine sw_istore dX3_componentSet_34 (by decide) rfl ?_
  show SW sc m_X3_componentSet _ _ _ 36 [some (.ref r0), some (.int l1), some (.int l2), some (.int l3), some (.int l4), some (.int v3)] [] g3 P
  refine sw_iload_n dX3_componentSet_36 rfl ?_
  refine sw_iload_n dX3_componentSet_37 rfl ?_
  exact sw_icmp_ne dX3_componentSet_38 (by decide) (fun q => (kt q)) (fun q => (sw_fg [true, true, true, true, true, false] rfl (kf q)))
theorem b_X3_componentSet_41 {l5 : Int32} (hP : P (.inl (some (.int l5))) h) : SW sc m_X3_componentSet d rc rs 41 [none, none, none, none, none, some (.int l5)] [] h P := by
  refine sw_iload dX3_componentSet_41 rfl ?_
  exact sw_ret (v := (some (.int l5))) dX3_componentSet_43 rt_i hP
theorem b_X3_componentSet_44 {r0 : Nat} {l1 : Int32} {l2 : Int32} {l3 : Int32} {l4 : Int32} {l5 : Int32} (k : SW sc m_X3_componentSet d rc rs 54 [some (.ref r0), some (.int l1), some (.int (l2 &&& (l5 ^^^ (-1)))), some (.int (l3 + 1)), some (.int l4), none] [] h P) : SW sc m_X3_componentSet d rc rs 44 [some (.ref r0), some (.int l1), some (.int l2), some (.int l3), some (.int l4), some (.int l5)] [] h P := by
  refine sw_iload_n dX3_componentSet_44 rfl ?_
  refine sw_iload dX3_componentSet_45 rfl ?_
  refine sw_iconst (v := (-1)) dX3_componentSet_47 (by decide) ?_
  refine sw_ixor dX3_componentSet_48 ?_
  refine sw_iand dX3_componentSet_49 ?_
  refine sw_istore_n dX3_componentSet_50 (by decide) rfl ?_
  show SW sc m_X3_componentSet _ _ _ 51 [some (.ref r0), some (.int l1), some (.int (l2 &&& (l5 ^^^ (-1)))), some (.int l3), some (.int l4), some (.int l5)] [] h P
  refine sw_iinc (v := l3 + 1) dX3_componentSet_51 rfl rfl (by decide) rfl ?_
  show SW sc m_X3_componentSet _ _ _ 54 [some (.ref r0), some (.int l1), some (.int (l2 &&& (l5 ^^^ (-1)))), some (.int (l3 + 1)), some (.int l4), some (.int l5)] [] h P
  exact (sw_fg [false, false, false, false, false, true] rfl (k))
theorem b_X3_componentSet_54 {r0 : Nat} {l1 : Int32} {l2 : Int32} {l3 : Int32} {l4 : Int32} (k : SW sc m_X3_componentSet d rc rs 10 [some (.ref r0), some (.int l1), some (.int l2), some (.int l3), some (.int (l4 + 1)), none] [] h P) : SW sc m_X3_componentSet d rc rs 54 [some (.ref r0), some (.int l1), some (.int l2), some (.int l3), some (.int l4), none] [] h P := by
  refine sw_iinc (v := l4 + 1) dX3_componentSet_54 rfl rfl (by decide) rfl ?_
  show SW sc m_X3_componentSet _ _ _ 57 [some (.ref r0), some (.int l1), some (.int l2), some (.int l3), some (.int (l4 + 1)), none] [] h P
  exact sw_goto dX3_componentSet_57 (by decide) (k)
theorem b_X3_componentSet_60  (hP : P (.inl (some (.int 0))) h) : SW sc m_X3_componentSet d rc rs 60 [none, none, none, none, none, none] [] h P := by
  refine sw_iconst (v := 0) dX3_componentSet_60 (by decide) ?_
  exact sw_ret (v := (some (.int 0))) dX3_componentSet_61 rt_i hP
theorem b_X3_componentNumber_0 {r0 : Nat} {l1 : Int32} {v3 : Int32} {g3 : ab_H} {fs3 : List Value} {v4 : Int32} {g4 : ab_H} (hr3 : (h)[r0]? = some (3, fs3)) (hm3 : MSE m_X3_componentWith d [.ref r0, .int l1] h (some (.int v3)) g3) (hm4 : MSE m_X9_lowest d [.int v3] g3 (some (.int v4)) g4) (k : SW sc m_X3_componentNumber (d + 1) rc rs 14 [some (.ref r0), none, some (.int v4), some (.int 0), some (.int 0)] [] g4 P) : SW sc m_X3_componentNumber (d + 1) rc rs 0 [some (.ref r0), some (.int l1), none, none, none] [] h P := by
  refine sw_aload_n dX3_componentNumber_0 rfl ?_
  refine sw_iload_n dX3_componentNumber_1 rfl ?_
  refine sw_cV (M := m_X3_componentNumber) dX3_componentNumber_2 lv_X3_78 hm3 hr3 rfl (by decide) rfl rfl rfl (Nat.le_of_ble_eq_true rfl) (fun _ _ => rfl) rfl ?_
  show SW sc m_X3_componentNumber _ _ _ 5 [some (.ref r0), some (.int l1), none, none, none] [.int v3] g3 P
  refine sw_cS (M := m_X3_componentNumber) dX3_componentNumber_5 ls_X3_65 hm4 rfl rfl (Nat.le_of_ble_eq_true rfl) (fun _ _ => rfl) rfl ?_
  show SW sc m_X3_componentNumber _ _ _ 8 [some (.ref r0), some (.int l1), none, none, none] [.int v4] g4 P
  refine sw_istore_n dX3_componentNumber_8 (by decide) rfl ?_
  show SW sc m_X3_componentNumber _ _ _ 9 [some (.ref r0), some (.int l1), some (.int v4), none, none] [] g4 P
  refine sw_iconst (v := 0) dX3_componentNumber_9 (by decide) ?_
  refine sw_istore_n dX3_componentNumber_10 (by decide) rfl ?_
  show SW sc m_X3_componentNumber _ _ _ 11 [some (.ref r0), some (.int l1), some (.int v4), some (.int 0), none] [] g4 P
  refine sw_iconst (v := 0) dX3_componentNumber_11 (by decide) ?_
  refine sw_istore dX3_componentNumber_12 (by decide) rfl ?_
  show SW sc m_X3_componentNumber _ _ _ 14 [some (.ref r0), some (.int l1), some (.int v4), some (.int 0), some (.int 0)] [] g4 P
  exact (sw_fg [false, true, false, false, false] rfl (k))
theorem b_X3_componentNumber_14 {r0 : Nat} {l2 : Int32} {l3 : Int32} {l4 : Int32} (kt : l2 ≤ l4 → SW sc m_X3_componentNumber d rc rs 43 [none, none, none, some (.int l3), none] [] h P) (kf : ¬ (l2 ≤ l4) → SW sc m_X3_componentNumber d rc rs 20 [some (.ref r0), none, some (.int l2), some (.int l3), some (.int l4)] [] h P) : SW sc m_X3_componentNumber d rc rs 14 [some (.ref r0), none, some (.int l2), some (.int l3), some (.int l4)] [] h P := by
  refine sw_iload dX3_componentNumber_14 rfl ?_
  refine sw_iload_n dX3_componentNumber_16 rfl ?_
  exact sw_icmp_ge dX3_componentNumber_17 (by decide) (fun q => (sw_fg [true, false, true, false, true] rfl (kt q))) (fun q => (kf q))
theorem b_X3_componentNumber_20 {r0 : Nat} {l2 : Int32} {l3 : Int32} {l4 : Int32} {v3 : Int32} {g3 : ab_H} {fs3 : List Value} {v4 : Int32} {g4 : ab_H} (hr3 : (h)[r0]? = some (3, fs3)) (hm3 : MSE m_X3_componentWith d [.ref r0, .int l4] h (some (.int v3)) g3) (hm4 : MSE m_X9_lowest d [.int v3] g3 (some (.int v4)) g4) (kt : ¬ v4 = l4 → SW sc m_X3_componentNumber (d + 1) rc rs 37 [some (.ref r0), none, some (.int l2), some (.int l3), some (.int l4)] [] g4 P) (kf : v4 = l4 → SW sc m_X3_componentNumber (d + 1) rc rs 34 [some (.ref r0), none, some (.int l2), some (.int l3), some (.int l4)] [] g4 P) : SW sc m_X3_componentNumber (d + 1) rc rs 20 [some (.ref r0), none, some (.int l2), some (.int l3), some (.int l4)] [] h P := by
  refine sw_aload_n dX3_componentNumber_20 rfl ?_
  refine sw_iload dX3_componentNumber_21 rfl ?_
  refine sw_cV (M := m_X3_componentNumber) dX3_componentNumber_23 lv_X3_78 hm3 hr3 rfl (by decide) rfl rfl rfl (Nat.le_of_ble_eq_true rfl) (fun _ _ => rfl) rfl ?_
  show SW sc m_X3_componentNumber _ _ _ 26 [some (.ref r0), none, some (.int l2), some (.int l3), some (.int l4)] [.int v3] g3 P
  refine sw_cS (M := m_X3_componentNumber) dX3_componentNumber_26 ls_X3_65 hm4 rfl rfl (Nat.le_of_ble_eq_true rfl) (fun _ _ => rfl) rfl ?_
  show SW sc m_X3_componentNumber _ _ _ 29 [some (.ref r0), none, some (.int l2), some (.int l3), some (.int l4)] [.int v4] g4 P
  refine sw_iload dX3_componentNumber_29 rfl ?_
  exact sw_icmp_ne dX3_componentNumber_31 (by decide) (fun q => (kt q)) (fun q => (kf q))
theorem b_X3_componentNumber_34 {r0 : Nat} {l2 : Int32} {l3 : Int32} {l4 : Int32} (k : SW sc m_X3_componentNumber d rc rs 37 [some (.ref r0), none, some (.int l2), some (.int (l3 + 1)), some (.int l4)] [] h P) : SW sc m_X3_componentNumber d rc rs 34 [some (.ref r0), none, some (.int l2), some (.int l3), some (.int l4)] [] h P := by
  refine sw_iinc (v := l3 + 1) dX3_componentNumber_34 rfl rfl (by decide) rfl ?_
  show SW sc m_X3_componentNumber _ _ _ 37 [some (.ref r0), none, some (.int l2), some (.int (l3 + 1)), some (.int l4)] [] h P
  exact (k)
theorem b_X3_componentNumber_37 {r0 : Nat} {l2 : Int32} {l3 : Int32} {l4 : Int32} (k : SW sc m_X3_componentNumber d rc rs 14 [some (.ref r0), none, some (.int l2), some (.int l3), some (.int (l4 + 1))] [] h P) : SW sc m_X3_componentNumber d rc rs 37 [some (.ref r0), none, some (.int l2), some (.int l3), some (.int l4)] [] h P := by
  refine sw_iinc (v := l4 + 1) dX3_componentNumber_37 rfl rfl (by decide) rfl ?_
  show SW sc m_X3_componentNumber _ _ _ 40 [some (.ref r0), none, some (.int l2), some (.int l3), some (.int (l4 + 1))] [] h P
  exact sw_goto dX3_componentNumber_40 (by decide) (k)
theorem b_X3_componentNumber_43 {l3 : Int32} (hP : P (.inl (some (.int l3))) h) : SW sc m_X3_componentNumber d rc rs 43 [none, none, none, some (.int l3), none] [] h P := by
  refine sw_iload_n dX3_componentNumber_43 rfl ?_
  exact sw_ret (v := (some (.int l3))) dX3_componentNumber_44 rt_i hP
theorem b_X3_components_0 {r0 : Nat} {fs2 : List Value} {x2 : Int32} {v4 : Int32} {g4 : ab_H} {fs4 : List Value} (hc2 : (h)[r0]? = some (3, fs2)) (hv2 : fs2[2]? = some (.int x2)) (hr4 : (h)[r0]? = some (3, fs4)) (hm4 : MSE m_X3_edges d [.ref r0] h (some (.int v4)) g4) (hP : P (.inl (some (.int (x2 - v4)))) g4) : SW sc m_X3_components (d + 1) rc rs 0 [some (.ref r0)] [] h P := by
  refine sw_aload_n dX3_components_0 rfl ?_
  refine sw_getf dX3_components_1 lf_X3_18 hc2 hv2 ?_
  refine sw_aload_n dX3_components_4 rfl ?_
  refine sw_cV (M := m_X3_components) dX3_components_5 lv_X3_81 hm4 hr4 rfl (by decide) rfl rfl rfl (Nat.le_of_ble_eq_true rfl) (fun _ _ => rfl) rfl ?_
  show SW sc m_X3_components _ _ _ 8 [some (.ref r0)] [.int v4, .int x2] g4 P
  refine sw_isub dX3_components_8 ?_
  exact sw_ret (v := (some (.int (x2 - v4)))) dX3_components_9 rt_i hP
theorem b_X3_steps_0 {r0 : Nat} {l1 : Int32} {l2 : Int32} (k : SW sc m_X3_steps d rc rs 7 [some (.ref r0), none, some (.int l2), some (.int (1 <<< (l1 &&& 31))), some (.int 0)] [] h P) : SW sc m_X3_steps d rc rs 0 [some (.ref r0), some (.int l1), some (.int l2), none, none] [] h P := by
  refine sw_iconst (v := 1) dX3_steps_0 (by decide) ?_
  refine sw_iload_n dX3_steps_1 rfl ?_
  refine sw_ishl dX3_steps_2 ?_
  refine sw_istore_n dX3_steps_3 (by decide) rfl ?_
  show SW sc m_X3_steps _ _ _ 4 [some (.ref r0), some (.int l1), some (.int l2), some (.int (1 <<< (l1 &&& 31))), none] [] h P
  refine sw_iconst (v := 0) dX3_steps_4 (by decide) ?_
  refine sw_istore dX3_steps_5 (by decide) rfl ?_
  show SW sc m_X3_steps _ _ _ 7 [some (.ref r0), some (.int l1), some (.int l2), some (.int (1 <<< (l1 &&& 31))), some (.int 0)] [] h P
  exact (sw_fg [false, true, false, false, false] rfl (k))
theorem b_X3_steps_7 {r0 : Nat} {l2 : Int32} {l3 : Int32} {l4 : Int32} {fs3 : List Value} {x3 : Int32} (hc3 : (h)[r0]? = some (3, fs3)) (hv3 : fs3[2]? = some (.int x3)) (kt : x3 ≤ l4 → SW sc m_X3_steps d rc rs 39 [none, none, none, none, none] [] h P) (kf : ¬ (x3 ≤ l4) → SW sc m_X3_steps d rc rs 16 [some (.ref r0), none, some (.int l2), some (.int l3), some (.int l4)] [] h P) : SW sc m_X3_steps d rc rs 7 [some (.ref r0), none, some (.int l2), some (.int l3), some (.int l4)] [] h P := by
  refine sw_iload dX3_steps_7 rfl ?_
  refine sw_aload_n dX3_steps_9 rfl ?_
  refine sw_getf dX3_steps_10 lf_X3_18 hc3 hv3 ?_
  exact sw_icmp_ge dX3_steps_13 (by decide) (fun q => (sw_fg [true, false, true, true, true] rfl (kt q))) (fun q => (kf q))
theorem b_X3_steps_16 {r0 : Nat} {l2 : Int32} {l3 : Int32} {l4 : Int32} {v3 : Int32} {g3 : ab_H} (hm3 : MSE m_X9_holds d [.int l3, .int l2] h (some (.int v3)) g3) (kt : v3 = 0 → SW sc m_X3_steps (d + 1) rc rs 27 [some (.ref r0), none, some (.int l2), some (.int l3), some (.int l4)] [] g3 P) (kf : ¬ (v3 = 0) → SW sc m_X3_steps (d + 1) rc rs 24 [none, none, none, none, some (.int l4)] [] g3 P) : SW sc m_X3_steps (d + 1) rc rs 16 [some (.ref r0), none, some (.int l2), some (.int l3), some (.int l4)] [] h P := by
  refine sw_iload_n dX3_steps_16 rfl ?_
  refine sw_iload_n dX3_steps_17 rfl ?_
  refine sw_cS (M := m_X3_steps) dX3_steps_18 ls_X3_50 hm3 rfl rfl (Nat.le_of_ble_eq_true rfl) (fun _ _ => rfl) rfl ?_
  show SW sc m_X3_steps _ _ _ 21 [some (.ref r0), none, some (.int l2), some (.int l3), some (.int l4)] [.int v3] g3 P
  exact sw_if_eq dX3_steps_21 (by decide) (fun q => (kt q)) (fun q => (sw_fg [true, false, true, true, false] rfl (kf q)))
theorem b_X3_steps_24 {l4 : Int32} (hP : P (.inl (some (.int l4))) h) : SW sc m_X3_steps d rc rs 24 [none, none, none, none, some (.int l4)] [] h P := by
  refine sw_iload dX3_steps_24 rfl ?_
  exact sw_ret (v := (some (.int l4))) dX3_steps_26 rt_i hP
theorem b_X3_steps_27 {r0 : Nat} {l2 : Int32} {l3 : Int32} {l4 : Int32} {v3 : Int32} {g3 : ab_H} {fs3 : List Value} (hr3 : (h)[r0]? = some (3, fs3)) (hm3 : MSE m_X3_withNeighbors d [.ref r0, .int l3] h (some (.int v3)) g3) (k : SW sc m_X3_steps (d + 1) rc rs 7 [some (.ref r0), none, some (.int l2), some (.int v3), some (.int (l4 + 1))] [] g3 P) : SW sc m_X3_steps (d + 1) rc rs 27 [some (.ref r0), none, some (.int l2), some (.int l3), some (.int l4)] [] h P := by
  refine sw_aload_n dX3_steps_27 rfl ?_
  refine sw_iload_n dX3_steps_28 rfl ?_
  refine sw_cV (M := m_X3_steps) dX3_steps_29 lv_X3_72 hm3 hr3 rfl (by decide) rfl rfl rfl (Nat.le_of_ble_eq_true rfl) (fun _ _ => rfl) rfl ?_
  show SW sc m_X3_steps _ _ _ 32 [some (.ref r0), none, some (.int l2), some (.int l3), some (.int l4)] [.int v3] g3 P
  refine sw_istore_n dX3_steps_32 (by decide) rfl ?_
  show SW sc m_X3_steps _ _ _ 33 [some (.ref r0), none, some (.int l2), some (.int v3), some (.int l4)] [] g3 P
  refine sw_iinc (v := l4 + 1) dX3_steps_33 rfl rfl (by decide) rfl ?_
  show SW sc m_X3_steps _ _ _ 36 [some (.ref r0), none, some (.int l2), some (.int v3), some (.int (l4 + 1))] [] g3 P
  exact sw_goto dX3_steps_36 (by decide) (k)
theorem b_X3_steps_39  (hP : P (.inl (some (.int (-1)))) h) : SW sc m_X3_steps d rc rs 39 [none, none, none, none, none] [] h P := by
  refine sw_iconst (v := (-1)) dX3_steps_39 (by decide) ?_
  exact sw_ret (v := (some (.int (-1)))) dX3_steps_40 rt_i hP
theorem b_X3_eccentricity_0 {r0 : Nat} {l1 : Int32} (k : SW sc m_X3_eccentricity d rc rs 6 [some (.ref r0), none, some (.int (1 <<< (l1 &&& 31))), some (.int 0), none] [] h P) : SW sc m_X3_eccentricity d rc rs 0 [some (.ref r0), some (.int l1), none, none, none] [] h P := by
  refine sw_iconst (v := 1) dX3_eccentricity_0 (by decide) ?_
  refine sw_iload_n dX3_eccentricity_1 rfl ?_
  refine sw_ishl dX3_eccentricity_2 ?_
  refine sw_istore_n dX3_eccentricity_3 (by decide) rfl ?_
  show SW sc m_X3_eccentricity _ _ _ 4 [some (.ref r0), some (.int l1), some (.int (1 <<< (l1 &&& 31))), none, none] [] h P
  refine sw_iconst (v := 0) dX3_eccentricity_4 (by decide) ?_
  refine sw_istore_n dX3_eccentricity_5 (by decide) rfl ?_
  show SW sc m_X3_eccentricity _ _ _ 6 [some (.ref r0), some (.int l1), some (.int (1 <<< (l1 &&& 31))), some (.int 0), none] [] h P
  exact (sw_fg [false, true, false, false, false] rfl (k))
theorem b_X3_eccentricity_6 {r0 : Nat} {l2 : Int32} {l3 : Int32} {fs3 : List Value} {x3 : Int32} (hc3 : (h)[r0]? = some (3, fs3)) (hv3 : fs3[2]? = some (.int x3)) (kt : x3 ≤ l3 → SW sc m_X3_eccentricity d rc rs 38 [some (.ref r0), none, none, none, none] [] h P) (kf : ¬ (x3 ≤ l3) → SW sc m_X3_eccentricity d rc rs 14 [some (.ref r0), none, some (.int l2), some (.int l3), none] [] h P) : SW sc m_X3_eccentricity d rc rs 6 [some (.ref r0), none, some (.int l2), some (.int l3), none] [] h P := by
  refine sw_iload_n dX3_eccentricity_6 rfl ?_
  refine sw_aload_n dX3_eccentricity_7 rfl ?_
  refine sw_getf dX3_eccentricity_8 lf_X3_18 hc3 hv3 ?_
  exact sw_icmp_ge dX3_eccentricity_11 (by decide) (fun q => (sw_fg [false, false, true, true, false] rfl (kt q))) (fun q => (kf q))
theorem b_X3_eccentricity_14 {r0 : Nat} {l2 : Int32} {l3 : Int32} {v3 : Int32} {g3 : ab_H} {fs3 : List Value} (hr3 : (h)[r0]? = some (3, fs3)) (hm3 : MSE m_X3_withNeighbors d [.ref r0, .int l2] h (some (.int v3)) g3) (kt : ¬ v3 = l2 → SW sc m_X3_eccentricity (d + 1) rc rs 29 [some (.ref r0), none, none, some (.int l3), some (.int v3)] [] g3 P) (kf : v3 = l2 → SW sc m_X3_eccentricity (d + 1) rc rs 27 [none, none, none, some (.int l3), none] [] g3 P) : SW sc m_X3_eccentricity (d + 1) rc rs 14 [some (.ref r0), none, some (.int l2), some (.int l3), none] [] h P := by
  refine sw_aload_n dX3_eccentricity_14 rfl ?_
  refine sw_iload_n dX3_eccentricity_15 rfl ?_
  refine sw_cV (M := m_X3_eccentricity) dX3_eccentricity_16 lv_X3_72 hm3 hr3 rfl (by decide) rfl rfl rfl (Nat.le_of_ble_eq_true rfl) (fun _ _ => rfl) rfl ?_
  show SW sc m_X3_eccentricity _ _ _ 19 [some (.ref r0), none, some (.int l2), some (.int l3), none] [.int v3] g3 P
  refine sw_istore dX3_eccentricity_19 (by decide) rfl ?_
  show SW sc m_X3_eccentricity _ _ _ 21 [some (.ref r0), none, some (.int l2), some (.int l3), some (.int v3)] [] g3 P
  refine sw_iload dX3_eccentricity_21 rfl ?_
  refine sw_iload_n dX3_eccentricity_23 rfl ?_
  exact sw_icmp_ne dX3_eccentricity_24 (by decide) (fun q => (sw_fg [false, false, true, false, false] rfl (kt q))) (fun q => (sw_fg [true, false, true, false, true] rfl (kf q)))
theorem b_X3_eccentricity_27 {l3 : Int32} (hP : P (.inl (some (.int l3))) h) : SW sc m_X3_eccentricity d rc rs 27 [none, none, none, some (.int l3), none] [] h P := by
  refine sw_iload_n dX3_eccentricity_27 rfl ?_
  exact sw_ret (v := (some (.int l3))) dX3_eccentricity_28 rt_i hP
theorem b_X3_eccentricity_29 {r0 : Nat} {l3 : Int32} {l4 : Int32} (k : SW sc m_X3_eccentricity d rc rs 6 [some (.ref r0), none, some (.int l4), some (.int (l3 + 1)), none] [] h P) : SW sc m_X3_eccentricity d rc rs 29 [some (.ref r0), none, none, some (.int l3), some (.int l4)] [] h P := by
  refine sw_iload dX3_eccentricity_29 rfl ?_
  refine sw_istore_n dX3_eccentricity_31 (by decide) rfl ?_
  show SW sc m_X3_eccentricity _ _ _ 32 [some (.ref r0), none, some (.int l4), some (.int l3), some (.int l4)] [] h P
  refine sw_iinc (v := l3 + 1) dX3_eccentricity_32 rfl rfl (by decide) rfl ?_
  show SW sc m_X3_eccentricity _ _ _ 35 [some (.ref r0), none, some (.int l4), some (.int (l3 + 1)), some (.int l4)] [] h P
  exact sw_goto dX3_eccentricity_35 (by decide) (sw_fg [false, false, false, false, true] rfl (k))
theorem b_X3_eccentricity_38 {r0 : Nat} {fs2 : List Value} {x2 : Int32} (hc2 : (h)[r0]? = some (3, fs2)) (hv2 : fs2[2]? = some (.int x2)) (hP : P (.inl (some (.int (x2 - 1)))) h) : SW sc m_X3_eccentricity d rc rs 38 [some (.ref r0), none, none, none, none] [] h P := by
  refine sw_aload_n dX3_eccentricity_38 rfl ?_
  refine sw_getf dX3_eccentricity_39 lf_X3_18 hc2 hv2 ?_
  refine sw_iconst (v := 1) dX3_eccentricity_42 (by decide) ?_
  refine sw_isub dX3_eccentricity_43 ?_
  exact sw_ret (v := (some (.int (x2 - 1)))) dX3_eccentricity_44 rt_i hP
theorem b_X3_diameter_0 {r0 : Nat} {l1 : Int32} (k : SW sc m_X3_diameter d rc rs 4 [some (.ref r0), some (.int l1), some (.int 0), some (.int 0)] [] h P) : SW sc m_X3_diameter d rc rs 0 [some (.ref r0), some (.int l1), none, none] [] h P := by
  refine sw_iconst (v := 0) dX3_diameter_0 (by decide) ?_
  refine sw_istore_n dX3_diameter_1 (by decide) rfl ?_
  show SW sc m_X3_diameter _ _ _ 2 [some (.ref r0), some (.int l1), some (.int 0), none] [] h P
  refine sw_iconst (v := 0) dX3_diameter_2 (by decide) ?_
  refine sw_istore_n dX3_diameter_3 (by decide) rfl ?_
  show SW sc m_X3_diameter _ _ _ 4 [some (.ref r0), some (.int l1), some (.int 0), some (.int 0)] [] h P
  exact (k)
theorem b_X3_diameter_4 {r0 : Nat} {l1 : Int32} {l2 : Int32} {l3 : Int32} {fs3 : List Value} {x3 : Int32} (hc3 : (h)[r0]? = some (3, fs3)) (hv3 : fs3[2]? = some (.int x3)) (kt : x3 ≤ l3 → SW sc m_X3_diameter d rc rs 36 [none, none, some (.int l2), none] [] h P) (kf : ¬ (x3 ≤ l3) → SW sc m_X3_diameter d rc rs 12 [some (.ref r0), some (.int l1), some (.int l2), some (.int l3)] [] h P) : SW sc m_X3_diameter d rc rs 4 [some (.ref r0), some (.int l1), some (.int l2), some (.int l3)] [] h P := by
  refine sw_iload_n dX3_diameter_4 rfl ?_
  refine sw_aload_n dX3_diameter_5 rfl ?_
  refine sw_getf dX3_diameter_6 lf_X3_18 hc3 hv3 ?_
  exact sw_icmp_ge dX3_diameter_9 (by decide) (fun q => (sw_fg [true, true, false, true] rfl (kt q))) (fun q => (kf q))
theorem b_X3_diameter_12 {r0 : Nat} {l1 : Int32} {l2 : Int32} {l3 : Int32} {v3 : Int32} {g3 : ab_H} (hm3 : MSE m_X9_holds d [.int l1, .int l3] h (some (.int v3)) g3) (kt : v3 = 0 → SW sc m_X3_diameter (d + 1) rc rs 30 [some (.ref r0), some (.int l1), some (.int l2), some (.int l3)] [] g3 P) (kf : ¬ (v3 = 0) → SW sc m_X3_diameter (d + 1) rc rs 20 [some (.ref r0), some (.int l1), some (.int l2), some (.int l3)] [] g3 P) : SW sc m_X3_diameter (d + 1) rc rs 12 [some (.ref r0), some (.int l1), some (.int l2), some (.int l3)] [] h P := by
  refine sw_iload_n dX3_diameter_12 rfl ?_
  refine sw_iload_n dX3_diameter_13 rfl ?_
  refine sw_cS (M := m_X3_diameter) dX3_diameter_14 ls_X3_50 hm3 rfl rfl (Nat.le_of_ble_eq_true rfl) (fun _ _ => rfl) rfl ?_
  show SW sc m_X3_diameter _ _ _ 17 [some (.ref r0), some (.int l1), some (.int l2), some (.int l3)] [.int v3] g3 P
  exact sw_if_eq dX3_diameter_17 (by decide) (fun q => (kt q)) (fun q => (kf q))
theorem b_X3_diameter_20 {r0 : Nat} {l1 : Int32} {l2 : Int32} {l3 : Int32} {v4 : Int32} {g4 : ab_H} {fs4 : List Value} {v5 : Int32} {g5 : ab_H} (hr4 : (h)[r0]? = some (3, fs4)) (hm4 : MSE m_X3_eccentricity d [.ref r0, .int l3] h (some (.int v4)) g4) (hm5 : MSE m_J9_max_7cf53 d [.int l2, .int v4] g4 (some (.int v5)) g5) (k : SW sc m_X3_diameter (d + 1) rc rs 30 [some (.ref r0), some (.int l1), some (.int v5), some (.int l3)] [] g5 P) : SW sc m_X3_diameter (d + 1) rc rs 20 [some (.ref r0), some (.int l1), some (.int l2), some (.int l3)] [] h P := by
  refine sw_iload_n dX3_diameter_20 rfl ?_
  refine sw_aload_n dX3_diameter_21 rfl ?_
  refine sw_iload_n dX3_diameter_22 rfl ?_
  refine sw_cV (M := m_X3_diameter) dX3_diameter_23 lv_X3_84 hm4 hr4 rfl (by decide) rfl rfl rfl (Nat.le_of_ble_eq_true rfl) (fun _ _ => rfl) rfl ?_
  show SW sc m_X3_diameter _ _ _ 26 [some (.ref r0), some (.int l1), some (.int l2), some (.int l3)] [.int v4, .int l2] g4 P
  refine sw_cS (M := m_X3_diameter) dX3_diameter_26 ls_X3_87 hm5 rfl rfl (Nat.le_of_ble_eq_true rfl) (fun _ _ => rfl) rfl ?_
  show SW sc m_X3_diameter _ _ _ 29 [some (.ref r0), some (.int l1), some (.int l2), some (.int l3)] [.int v5] g5 P
  refine sw_istore_n dX3_diameter_29 (by decide) rfl ?_
  show SW sc m_X3_diameter _ _ _ 30 [some (.ref r0), some (.int l1), some (.int v5), some (.int l3)] [] g5 P
  exact (k)
theorem b_X3_diameter_30 {r0 : Nat} {l1 : Int32} {l2 : Int32} {l3 : Int32} (k : SW sc m_X3_diameter d rc rs 4 [some (.ref r0), some (.int l1), some (.int l2), some (.int (l3 + 1))] [] h P) : SW sc m_X3_diameter d rc rs 30 [some (.ref r0), some (.int l1), some (.int l2), some (.int l3)] [] h P := by
  refine sw_iinc (v := l3 + 1) dX3_diameter_30 rfl rfl (by decide) rfl ?_
  show SW sc m_X3_diameter _ _ _ 33 [some (.ref r0), some (.int l1), some (.int l2), some (.int (l3 + 1))] [] h P
  exact sw_goto dX3_diameter_33 (by decide) (k)
theorem b_X3_diameter_36 {l2 : Int32} (hP : P (.inl (some (.int l2))) h) : SW sc m_X3_diameter d rc rs 36 [none, none, some (.int l2), none] [] h P := by
  refine sw_iload_n dX3_diameter_36 rfl ?_
  exact sw_ret (v := (some (.int l2))) dX3_diameter_37 rt_i hP
theorem b_X3_pathSet_0 {r0 : Nat} {l1 : Int32} {l2 : Int32} {v4 : Int32} {g4 : ab_H} {fs4 : List Value} (hr4 : (h)[r0]? = some (3, fs4)) (hm4 : MSE m_X3_steps d [.ref r0, .int l1, .int l2] h (some (.int v4)) g4) (k : SW sc m_X3_pathSet (d + 1) rc rs 13 [some (.ref r0), some (.int l1), some (.int l2), some (.int v4), some (.int 0), some (.int 0)] [] g4 P) : SW sc m_X3_pathSet (d + 1) rc rs 0 [some (.ref r0), some (.int l1), some (.int l2), none, none, none] [] h P := by
  refine sw_aload_n dX3_pathSet_0 rfl ?_
  refine sw_iload_n dX3_pathSet_1 rfl ?_
  refine sw_iload_n dX3_pathSet_2 rfl ?_
  refine sw_cV (M := m_X3_pathSet) dX3_pathSet_3 lv_X3_92 hm4 hr4 rfl (by decide) rfl rfl rfl (Nat.le_of_ble_eq_true rfl) (fun _ _ => rfl) rfl ?_
  show SW sc m_X3_pathSet _ _ _ 6 [some (.ref r0), some (.int l1), some (.int l2), none, none, none] [.int v4] g4 P
  refine sw_istore_n dX3_pathSet_6 (by decide) rfl ?_
  show SW sc m_X3_pathSet _ _ _ 7 [some (.ref r0), some (.int l1), some (.int l2), some (.int v4), none, none] [] g4 P
  refine sw_iconst (v := 0) dX3_pathSet_7 (by decide) ?_
  refine sw_istore dX3_pathSet_8 (by decide) rfl ?_
  show SW sc m_X3_pathSet _ _ _ 10 [some (.ref r0), some (.int l1), some (.int l2), some (.int v4), some (.int 0), none] [] g4 P
  refine sw_iconst (v := 0) dX3_pathSet_10 (by decide) ?_
  refine sw_istore dX3_pathSet_11 (by decide) rfl ?_
  show SW sc m_X3_pathSet _ _ _ 13 [some (.ref r0), some (.int l1), some (.int l2), some (.int v4), some (.int 0), some (.int 0)] [] g4 P
  exact (k)
theorem b_X3_pathSet_13 {r0 : Nat} {l1 : Int32} {l2 : Int32} {l3 : Int32} {l4 : Int32} {l5 : Int32} {fs3 : List Value} {x3 : Int32} (hc3 : (h)[r0]? = some (3, fs3)) (hv3 : fs3[2]? = some (.int x3)) (kt : x3 ≤ l5 → SW sc m_X3_pathSet d rc rs 61 [none, none, none, none, some (.int l4), none] [] h P) (kf : ¬ (x3 ≤ l5) → SW sc m_X3_pathSet d rc rs 22 [some (.ref r0), some (.int l1), some (.int l2), some (.int l3), some (.int l4), some (.int l5)] [] h P) : SW sc m_X3_pathSet d rc rs 13 [some (.ref r0), some (.int l1), some (.int l2), some (.int l3), some (.int l4), some (.int l5)] [] h P := by
  refine sw_iload dX3_pathSet_13 rfl ?_
  refine sw_aload_n dX3_pathSet_15 rfl ?_
  refine sw_getf dX3_pathSet_16 lf_X3_18 hc3 hv3 ?_
  exact sw_icmp_ge dX3_pathSet_19 (by decide) (fun q => (sw_fg [true, true, true, true, false, true] rfl (kt q))) (fun q => (kf q))
theorem b_X3_pathSet_22 {r0 : Nat} {l1 : Int32} {l2 : Int32} {l3 : Int32} {l4 : Int32} {l5 : Int32} (kt : l3 = (-1) → SW sc m_X3_pathSet d rc rs 61 [none, none, none, none, some (.int l4), none] [] h P) (kf : ¬ (l3 = (-1)) → SW sc m_X3_pathSet d rc rs 27 [some (.ref r0), some (.int l1), some (.int l2), some (.int l3), some (.int l4), some (.int l5)] [] h P) : SW sc m_X3_pathSet d rc rs 22 [some (.ref r0), some (.int l1), some (.int l2), some (.int l3), some (.int l4), some (.int l5)] [] h P := by
  refine sw_iload_n dX3_pathSet_22 rfl ?_
  refine sw_iconst (v := (-1)) dX3_pathSet_23 (by decide) ?_
  exact sw_icmp_eq dX3_pathSet_24 (by decide) (fun q => (sw_fg [true, true, true, true, false, true] rfl (kt q))) (fun q => (kf q))
theorem b_X3_pathSet_27 {r0 : Nat} {l1 : Int32} {l2 : Int32} {l3 : Int32} {l4 : Int32} {l5 : Int32} {v4 : Int32} {g4 : ab_H} {fs4 : List Value} {v8 : Int32} {g8 : ab_H} {fs8 : List Value} (hr4 : (h)[r0]? = some (3, fs4)) (hm4 : MSE m_X3_steps d [.ref r0, .int l1, .int l5] h (some (.int v4)) g4) (hr8 : (g4)[r0]? = some (3, fs8)) (hm8 : MSE m_X3_steps d [.ref r0, .int l5, .int l2] g4 (some (.int v8)) g8) (kt : ¬ (v4 + v8) = l3 → SW sc m_X3_pathSet (d + 1) rc rs 55 [some (.ref r0), some (.int l1), some (.int l2), some (.int l3), some (.int l4), some (.int l5)] [] g8 P) (kf : (v4 + v8) = l3 → SW sc m_X3_pathSet (d + 1) rc rs 46 [some (.ref r0), some (.int l1), some (.int l2), some (.int l3), some (.int l4), some (.int l5)] [] g8 P) : SW sc m_X3_pathSet (d + 1) rc rs 27 [some (.ref r0), some (.int l1), some (.int l2), some (.int l3), some (.int l4), some (.int l5)] [] h P := by
  refine sw_aload_n dX3_pathSet_27 rfl ?_
  refine sw_iload_n dX3_pathSet_28 rfl ?_
  refine sw_iload dX3_pathSet_29 rfl ?_
  refine sw_cV (M := m_X3_pathSet) dX3_pathSet_31 lv_X3_92 hm4 hr4 rfl (by decide) rfl rfl rfl (Nat.le_of_ble_eq_true rfl) (fun _ _ => rfl) rfl ?_
  show SW sc m_X3_pathSet _ _ _ 34 [some (.ref r0), some (.int l1), some (.int l2), some (.int l3), some (.int l4), some (.int l5)] [.int v4] g4 P
  refine sw_aload_n dX3_pathSet_34 rfl ?_
  refine sw_iload dX3_pathSet_35 rfl ?_
  refine sw_iload_n dX3_pathSet_37 rfl ?_
  refine sw_cV (M := m_X3_pathSet) dX3_pathSet_38 lv_X3_92 hm8 hr8 rfl (by decide) rfl rfl rfl (Nat.le_of_ble_eq_true rfl) (fun _ _ => rfl) rfl ?_
  show SW sc m_X3_pathSet _ _ _ 41 [some (.ref r0), some (.int l1), some (.int l2), some (.int l3), some (.int l4), some (.int l5)] [.int v8, .int v4] g8 P
  refine sw_iadd dX3_pathSet_41 ?_
  refine sw_iload_n dX3_pathSet_42 rfl ?_
  exact sw_icmp_ne dX3_pathSet_43 (by decide) (fun q => (kt q)) (fun q => (kf q))
theorem b_X3_pathSet_46 {r0 : Nat} {l1 : Int32} {l2 : Int32} {l3 : Int32} {l4 : Int32} {l5 : Int32} (k : SW sc m_X3_pathSet d rc rs 55 [some (.ref r0), some (.int l1), some (.int l2), some (.int l3), some (.int (l4 ||| (1 <<< (l5 &&& 31)))), some (.int l5)] [] h P) : SW sc m_X3_pathSet d rc rs 46 [some (.ref r0), some (.int l1), some (.int l2), some (.int l3), some (.int l4), some (.int l5)] [] h P := by
  refine sw_iload dX3_pathSet_46 rfl ?_
  refine sw_iconst (v := 1) dX3_pathSet_48 (by decide) ?_
  refine sw_iload dX3_pathSet_49 rfl ?_
  refine sw_ishl dX3_pathSet_51 ?_
  refine sw_ior dX3_pathSet_52 ?_
  refine sw_istore dX3_pathSet_53 (by decide) rfl ?_
  show SW sc m_X3_pathSet _ _ _ 55 [some (.ref r0), some (.int l1), some (.int l2), some (.int l3), some (.int (l4 ||| (1 <<< (l5 &&& 31)))), some (.int l5)] [] h P
  exact (k)
theorem b_X3_pathSet_55 {r0 : Nat} {l1 : Int32} {l2 : Int32} {l3 : Int32} {l4 : Int32} {l5 : Int32} (k : SW sc m_X3_pathSet d rc rs 13 [some (.ref r0), some (.int l1), some (.int l2), some (.int l3), some (.int l4), some (.int (l5 + 1))] [] h P) : SW sc m_X3_pathSet d rc rs 55 [some (.ref r0), some (.int l1), some (.int l2), some (.int l3), some (.int l4), some (.int l5)] [] h P := by
  refine sw_iinc (v := l5 + 1) dX3_pathSet_55 rfl rfl (by decide) rfl ?_
  show SW sc m_X3_pathSet _ _ _ 58 [some (.ref r0), some (.int l1), some (.int l2), some (.int l3), some (.int l4), some (.int (l5 + 1))] [] h P
  exact sw_goto dX3_pathSet_58 (by decide) (k)
theorem b_X3_pathSet_61 {l4 : Int32} (hP : P (.inl (some (.int l4))) h) : SW sc m_X3_pathSet d rc rs 61 [none, none, none, none, some (.int l4), none] [] h P := by
  refine sw_iload dX3_pathSet_61 rfl ?_
  exact sw_ret (v := (some (.int l4))) dX3_pathSet_63 rt_i hP
theorem b_X3_pathVertex_0 {r0 : Nat} {l1 : Int32} {l2 : Int32} {l3 : Int32} {v4 : Int32} {g4 : ab_H} {fs4 : List Value} (hr4 : (h)[r0]? = some (3, fs4)) (hm4 : MSE m_X3_pathSet d [.ref r0, .int l1, .int l2] h (some (.int v4)) g4) (k : SW sc m_X3_pathVertex (d + 1) rc rs 11 [some (.ref r0), some (.int l1), none, some (.int l3), some (.int v4), some (.int 0)] [] g4 P) : SW sc m_X3_pathVertex (d + 1) rc rs 0 [some (.ref r0), some (.int l1), some (.int l2), some (.int l3), none, none] [] h P := by
  refine sw_aload_n dX3_pathVertex_0 rfl ?_
  refine sw_iload_n dX3_pathVertex_1 rfl ?_
  refine sw_iload_n dX3_pathVertex_2 rfl ?_
  refine sw_cV (M := m_X3_pathVertex) dX3_pathVertex_3 lv_X3_95 hm4 hr4 rfl (by decide) rfl rfl rfl (Nat.le_of_ble_eq_true rfl) (fun _ _ => rfl) rfl ?_
  show SW sc m_X3_pathVertex _ _ _ 6 [some (.ref r0), some (.int l1), some (.int l2), some (.int l3), none, none] [.int v4] g4 P
  refine sw_istore dX3_pathVertex_6 (by decide) rfl ?_
  show SW sc m_X3_pathVertex _ _ _ 8 [some (.ref r0), some (.int l1), some (.int l2), some (.int l3), some (.int v4), none] [] g4 P
  refine sw_iconst (v := 0) dX3_pathVertex_8 (by decide) ?_
  refine sw_istore dX3_pathVertex_9 (by decide) rfl ?_
  show SW sc m_X3_pathVertex _ _ _ 11 [some (.ref r0), some (.int l1), some (.int l2), some (.int l3), some (.int v4), some (.int 0)] [] g4 P
  exact (sw_fg [false, false, true, false, false, false] rfl (k))
theorem b_X3_pathVertex_11 {r0 : Nat} {l1 : Int32} {l3 : Int32} {l4 : Int32} {l5 : Int32} {fs3 : List Value} {x3 : Int32} (hc3 : (h)[r0]? = some (3, fs3)) (hv3 : fs3[2]? = some (.int x3)) (kt : x3 ≤ l5 → SW sc m_X3_pathVertex d rc rs 50 [none, none, none, none, none, none] [] h P) (kf : ¬ (x3 ≤ l5) → SW sc m_X3_pathVertex d rc rs 20 [some (.ref r0), some (.int l1), none, some (.int l3), some (.int l4), some (.int l5)] [] h P) : SW sc m_X3_pathVertex d rc rs 11 [some (.ref r0), some (.int l1), none, some (.int l3), some (.int l4), some (.int l5)] [] h P := by
  refine sw_iload dX3_pathVertex_11 rfl ?_
  refine sw_aload_n dX3_pathVertex_13 rfl ?_
  refine sw_getf dX3_pathVertex_14 lf_X3_18 hc3 hv3 ?_
  exact sw_icmp_ge dX3_pathVertex_17 (by decide) (fun q => (sw_fg [true, true, false, true, true, true] rfl (kt q))) (fun q => (kf q))
theorem b_X3_pathVertex_20 {r0 : Nat} {l1 : Int32} {l3 : Int32} {l4 : Int32} {l5 : Int32} {v3 : Int32} {g3 : ab_H} (hm3 : MSE m_X9_holds d [.int l4, .int l5] h (some (.int v3)) g3) (kt : v3 = 0 → SW sc m_X3_pathVertex (d + 1) rc rs 44 [some (.ref r0), some (.int l1), none, some (.int l3), some (.int l4), some (.int l5)] [] g3 P) (kf : ¬ (v3 = 0) → SW sc m_X3_pathVertex (d + 1) rc rs 30 [some (.ref r0), some (.int l1), none, some (.int l3), some (.int l4), some (.int l5)] [] g3 P) : SW sc m_X3_pathVertex (d + 1) rc rs 20 [some (.ref r0), some (.int l1), none, some (.int l3), some (.int l4), some (.int l5)] [] h P := by
  refine sw_iload dX3_pathVertex_20 rfl ?_
  refine sw_iload dX3_pathVertex_22 rfl ?_
  refine sw_cS (M := m_X3_pathVertex) dX3_pathVertex_24 ls_X3_50 hm3 rfl rfl (Nat.le_of_ble_eq_true rfl) (fun _ _ => rfl) rfl ?_
  show SW sc m_X3_pathVertex _ _ _ 27 [some (.ref r0), some (.int l1), none, some (.int l3), some (.int l4), some (.int l5)] [.int v3] g3 P
  exact sw_if_eq dX3_pathVertex_27 (by decide) (fun q => (kt q)) (fun q => (kf q))
theorem b_X3_pathVertex_30 {r0 : Nat} {l1 : Int32} {l3 : Int32} {l4 : Int32} {l5 : Int32} {v4 : Int32} {g4 : ab_H} {fs4 : List Value} (hr4 : (h)[r0]? = some (3, fs4)) (hm4 : MSE m_X3_steps d [.ref r0, .int l1, .int l5] h (some (.int v4)) g4) (kt : ¬ v4 = l3 → SW sc m_X3_pathVertex (d + 1) rc rs 44 [some (.ref r0), some (.int l1), none, some (.int l3), some (.int l4), some (.int l5)] [] g4 P) (kf : v4 = l3 → SW sc m_X3_pathVertex (d + 1) rc rs 41 [none, none, none, none, none, some (.int l5)] [] g4 P) : SW sc m_X3_pathVertex (d + 1) rc rs 30 [some (.ref r0), some (.int l1), none, some (.int l3), some (.int l4), some (.int l5)] [] h P := by
  refine sw_aload_n dX3_pathVertex_30 rfl ?_
  refine sw_iload_n dX3_pathVertex_31 rfl ?_
  refine sw_iload dX3_pathVertex_32 rfl ?_
  refine sw_cV (M := m_X3_pathVertex) dX3_pathVertex_34 lv_X3_92 hm4 hr4 rfl (by decide) rfl rfl rfl (Nat.le_of_ble_eq_true rfl) (fun _ _ => rfl) rfl ?_
  show SW sc m_X3_pathVertex _ _ _ 37 [some (.ref r0), some (.int l1), none, some (.int l3), some (.int l4), some (.int l5)] [.int v4] g4 P
  refine sw_iload_n dX3_pathVertex_37 rfl ?_
  exact sw_icmp_ne dX3_pathVertex_38 (by decide) (fun q => (kt q)) (fun q => (sw_fg [true, true, false, true, true, false] rfl (kf q)))
theorem b_X3_pathVertex_41 {l5 : Int32} (hP : P (.inl (some (.int l5))) h) : SW sc m_X3_pathVertex d rc rs 41 [none, none, none, none, none, some (.int l5)] [] h P := by
  refine sw_iload dX3_pathVertex_41 rfl ?_
  exact sw_ret (v := (some (.int l5))) dX3_pathVertex_43 rt_i hP
theorem b_X3_pathVertex_44 {r0 : Nat} {l1 : Int32} {l3 : Int32} {l4 : Int32} {l5 : Int32} (k : SW sc m_X3_pathVertex d rc rs 11 [some (.ref r0), some (.int l1), none, some (.int l3), some (.int l4), some (.int (l5 + 1))] [] h P) : SW sc m_X3_pathVertex d rc rs 44 [some (.ref r0), some (.int l1), none, some (.int l3), some (.int l4), some (.int l5)] [] h P := by
  refine sw_iinc (v := l5 + 1) dX3_pathVertex_44 rfl rfl (by decide) rfl ?_
  show SW sc m_X3_pathVertex _ _ _ 47 [some (.ref r0), some (.int l1), none, some (.int l3), some (.int l4), some (.int (l5 + 1))] [] h P
  exact sw_goto dX3_pathVertex_47 (by decide) (k)
theorem b_X3_pathVertex_50  (hP : P (.inl (some (.int (-1)))) h) : SW sc m_X3_pathVertex d rc rs 50 [none, none, none, none, none, none] [] h P := by
  refine sw_iconst (v := (-1)) dX3_pathVertex_50 (by decide) ?_
  exact sw_ret (v := (some (.int (-1)))) dX3_pathVertex_51 rt_i hP
theorem b_X3_greatestPart_0 {r0 : Nat} {l1 : Int32} {l2 : Int32} {v2 : Int32} {g2 : ab_H} {fs2 : List Value} {v4 : Int32} {g4 : ab_H} (hr2 : (h)[r0]? = some (3, fs2)) (hm2 : MSE m_X3_all d [.ref r0] h (some (.int v2)) g2) (hm4 : MSE m_X9_without d [.int v2, .int l1] g2 (some (.int v4)) g4) (k : SW sc m_X3_greatestPart (d + 1) rc rs 15 [some (.ref r0), some (.int l1), some (.int l2), some (.int v4), some (.int 0), some (.int 0), none] [] g4 P) : SW sc m_X3_greatestPart (d + 1) rc rs 0 [some (.ref r0), some (.int l1), some (.int l2), none, none, none, none] [] h P := by
  refine sw_aload_n dX3_greatestPart_0 rfl ?_
  refine sw_cV (M := m_X3_greatestPart) dX3_greatestPart_1 lv_X3_61 hm2 hr2 rfl (by decide) rfl rfl rfl (Nat.le_of_ble_eq_true rfl) (fun _ _ => rfl) rfl ?_
  show SW sc m_X3_greatestPart _ _ _ 4 [some (.ref r0), some (.int l1), some (.int l2), none, none, none, none] [.int v2] g2 P
  refine sw_iload_n dX3_greatestPart_4 rfl ?_
  refine sw_cS (M := m_X3_greatestPart) dX3_greatestPart_5 ls_X3_54 hm4 rfl rfl (Nat.le_of_ble_eq_true rfl) (fun _ _ => rfl) rfl ?_
  show SW sc m_X3_greatestPart _ _ _ 8 [some (.ref r0), some (.int l1), some (.int l2), none, none, none, none] [.int v4] g4 P
  refine sw_istore_n dX3_greatestPart_8 (by decide) rfl ?_
  show SW sc m_X3_greatestPart _ _ _ 9 [some (.ref r0), some (.int l1), some (.int l2), some (.int v4), none, none, none] [] g4 P
  refine sw_iconst (v := 0) dX3_greatestPart_9 (by decide) ?_
  refine sw_istore dX3_greatestPart_10 (by decide) rfl ?_
  show SW sc m_X3_greatestPart _ _ _ 12 [some (.ref r0), some (.int l1), some (.int l2), some (.int v4), some (.int 0), none, none] [] g4 P
  refine sw_iconst (v := 0) dX3_greatestPart_12 (by decide) ?_
  refine sw_istore dX3_greatestPart_13 (by decide) rfl ?_
  show SW sc m_X3_greatestPart _ _ _ 15 [some (.ref r0), some (.int l1), some (.int l2), some (.int v4), some (.int 0), some (.int 0), none] [] g4 P
  exact (k)
theorem b_X3_greatestPart_15 {r0 : Nat} {l1 : Int32} {l2 : Int32} {l3 : Int32} {l4 : Int32} {l5 : Int32} {fs3 : List Value} {x3 : Int32} (hc3 : (h)[r0]? = some (3, fs3)) (hv3 : fs3[2]? = some (.int x3)) (kt : x3 ≤ l5 → SW sc m_X3_greatestPart d rc rs 74 [none, none, none, none, some (.int l4), none, none] [] h P) (kf : ¬ (x3 ≤ l5) → SW sc m_X3_greatestPart d rc rs 24 [some (.ref r0), some (.int l1), some (.int l2), some (.int l3), some (.int l4), some (.int l5), none] [] h P) : SW sc m_X3_greatestPart d rc rs 15 [some (.ref r0), some (.int l1), some (.int l2), some (.int l3), some (.int l4), some (.int l5), none] [] h P := by
  refine sw_iload dX3_greatestPart_15 rfl ?_
  refine sw_aload_n dX3_greatestPart_17 rfl ?_
  refine sw_getf dX3_greatestPart_18 lf_X3_18 hc3 hv3 ?_
  exact sw_icmp_ge dX3_greatestPart_21 (by decide) (fun q => (sw_fg [true, true, true, true, false, true, false] rfl (kt q))) (fun q => (kf q))
theorem b_X3_greatestPart_24 {r0 : Nat} {l1 : Int32} {l2 : Int32} {l3 : Int32} {l4 : Int32} {l5 : Int32} {v4 : Int32} {g4 : ab_H} {fs4 : List Value} (hr4 : (h)[r0]? = some (3, fs4)) (hm4 : MSE m_X3_hasEdge d [.ref r0, .int l1, .int l5] h (some (.int v4)) g4) (kt : v4 = 0 → SW sc m_X3_greatestPart (d + 1) rc rs 68 [some (.ref r0), some (.int l1), some (.int l2), some (.int l3), some (.int l4), some (.int l5), none] [] g4 P) (kf : ¬ (v4 = 0) → SW sc m_X3_greatestPart (d + 1) rc rs 34 [some (.ref r0), some (.int l1), some (.int l2), some (.int l3), some (.int l4), some (.int l5), none] [] g4 P) : SW sc m_X3_greatestPart (d + 1) rc rs 24 [some (.ref r0), some (.int l1), some (.int l2), some (.int l3), some (.int l4), some (.int l5), none] [] h P := by
  refine sw_aload_n dX3_greatestPart_24 rfl ?_
  refine sw_iload_n dX3_greatestPart_25 rfl ?_
  refine sw_iload dX3_greatestPart_26 rfl ?_
  refine sw_cV (M := m_X3_greatestPart) dX3_greatestPart_28 lv_X3_98 hm4 hr4 rfl (by decide) rfl rfl rfl (Nat.le_of_ble_eq_true rfl) (fun _ _ => rfl) rfl ?_
  show SW sc m_X3_greatestPart _ _ _ 31 [some (.ref r0), some (.int l1), some (.int l2), some (.int l3), some (.int l4), some (.int l5), none] [.int v4] g4 P
  exact sw_if_eq dX3_greatestPart_31 (by decide) (fun q => (kt q)) (fun q => (kf q))
theorem b_X3_greatestPart_34 {r0 : Nat} {l1 : Int32} {l2 : Int32} {l3 : Int32} {l4 : Int32} {l5 : Int32} {v4 : Int32} {g4 : ab_H} {fs4 : List Value} (hr4 : (h)[r0]? = some (3, fs4)) (hm4 : MSE m_X3_reachable d [.ref r0, .int l5, .int l3] h (some (.int v4)) g4) (kt : l2 = 0 → SW sc m_X3_greatestPart (d + 1) rc rs 58 [some (.ref r0), some (.int l1), some (.int l2), some (.int l3), none, some (.int l5), some (.int v4)] [.int l4] g4 P) (kf : ¬ (l2 = 0) → SW sc m_X3_greatestPart (d + 1) rc rs 49 [some (.ref r0), some (.int l1), some (.int l2), some (.int l3), none, some (.int l5), some (.int v4)] [.int l4] g4 P) : SW sc m_X3_greatestPart (d + 1) rc rs 34 [some (.ref r0), some (.int l1), some (.int l2), some (.int l3), some (.int l4), some (.int l5), none] [] h P := by
  refine sw_aload_n dX3_greatestPart_34 rfl ?_
  refine sw_iload dX3_greatestPart_35 rfl ?_
  refine sw_iload_n dX3_greatestPart_37 rfl ?_
  refine sw_cV (M := m_X3_greatestPart) dX3_greatestPart_38 lv_X3_75 hm4 hr4 rfl (by decide) rfl rfl rfl (Nat.le_of_ble_eq_true rfl) (fun _ _ => rfl) rfl ?_
  show SW sc m_X3_greatestPart _ _ _ 41 [some (.ref r0), some (.int l1), some (.int l2), some (.int l3), some (.int l4), some (.int l5), none] [.int v4] g4 P
  refine sw_istore dX3_greatestPart_41 (by decide) rfl ?_
  show SW sc m_X3_greatestPart _ _ _ 43 [some (.ref r0), some (.int l1), some (.int l2), some (.int l3), some (.int l4), some (.int l5), some (.int v4)] [] g4 P
  refine sw_iload dX3_greatestPart_43 rfl ?_
  refine sw_iload_n dX3_greatestPart_45 rfl ?_
  exact sw_if_eq dX3_greatestPart_46 (by decide) (fun q => (sw_fg [false, false, false, false, true, false, false] rfl (kt q))) (fun q => (sw_fg [false, false, false, false, true, false, false] rfl (kf q)))
theorem b_X3_greatestPart_49 {r0 : Nat} {l1 : Int32} {l2 : Int32} {l3 : Int32} {l5 : Int32} {l6 : Int32} {s0 : Int32} {v3 : Int32} {g3 : ab_H} {fs3 : List Value} (hr3 : (h)[r0]? = some (3, fs3)) (hm3 : MSE m_X3_weightOfSet d [.ref r0, .int l6] h (some (.int v3)) g3) (k : SW sc m_X3_greatestPart (d + 1) rc rs 63 [some (.ref r0), some (.int l1), some (.int l2), some (.int l3), none, some (.int l5), none] [.int v3, .int s0] g3 P) : SW sc m_X3_greatestPart (d + 1) rc rs 49 [some (.ref r0), some (.int l1), some (.int l2), some (.int l3), none, some (.int l5), some (.int l6)] [.int s0] h P := by
  refine sw_aload_n dX3_greatestPart_49 rfl ?_
  refine sw_iload dX3_greatestPart_50 rfl ?_
  refine sw_cV (M := m_X3_greatestPart) dX3_greatestPart_52 lv_X3_101 hm3 hr3 rfl (by decide) rfl rfl rfl (Nat.le_of_ble_eq_true rfl) (fun _ _ => rfl) rfl ?_
  show SW sc m_X3_greatestPart _ _ _ 55 [some (.ref r0), some (.int l1), some (.int l2), some (.int l3), none, some (.int l5), some (.int l6)] [.int v3, .int s0] g3 P
  exact sw_goto dX3_greatestPart_55 (by decide) (sw_fg [false, false, false, false, false, false, true] rfl (k))
theorem b_X3_greatestPart_58 {r0 : Nat} {l1 : Int32} {l2 : Int32} {l3 : Int32} {l5 : Int32} {l6 : Int32} {s0 : Int32} {v2 : Int32} {g2 : ab_H} (hm2 : MSE m_J6_bitCount_0f7a4 d [.int l6] h (some (.int v2)) g2) (k : SW sc m_X3_greatestPart (d + 1) rc rs 63 [some (.ref r0), some (.int l1), some (.int l2), some (.int l3), none, some (.int l5), none] [.int v2, .int s0] g2 P) : SW sc m_X3_greatestPart (d + 1) rc rs 58 [some (.ref r0), some (.int l1), some (.int l2), some (.int l3), none, some (.int l5), some (.int l6)] [.int s0] h P := by
  refine sw_iload dX3_greatestPart_58 rfl ?_
  refine sw_cS (M := m_X3_greatestPart) dX3_greatestPart_60 ls_X3_37 hm2 rfl rfl (Nat.le_of_ble_eq_true rfl) (fun _ _ => rfl) rfl ?_
  show SW sc m_X3_greatestPart _ _ _ 63 [some (.ref r0), some (.int l1), some (.int l2), some (.int l3), none, some (.int l5), some (.int l6)] [.int v2, .int s0] g2 P
  exact (sw_fg [false, false, false, false, false, false, true] rfl (k))
theorem b_X3_greatestPart_63 {r0 : Nat} {l1 : Int32} {l2 : Int32} {l3 : Int32} {l5 : Int32} {s0 : Int32} {s1 : Int32} {v1 : Int32} {g1 : ab_H} (hm1 : MSE m_J9_max_7cf53 d [.int s0, .int s1] h (some (.int v1)) g1) (k : SW sc m_X3_greatestPart (d + 1) rc rs 68 [some (.ref r0), some (.int l1), some (.int l2), some (.int l3), some (.int v1), some (.int l5), none] [] g1 P) : SW sc m_X3_greatestPart (d + 1) rc rs 63 [some (.ref r0), some (.int l1), some (.int l2), some (.int l3), none, some (.int l5), none] [.int s1, .int s0] h P := by
  refine sw_cS (M := m_X3_greatestPart) dX3_greatestPart_63 ls_X3_87 hm1 rfl rfl (Nat.le_of_ble_eq_true rfl) (fun _ _ => rfl) rfl ?_
  show SW sc m_X3_greatestPart _ _ _ 66 [some (.ref r0), some (.int l1), some (.int l2), some (.int l3), none, some (.int l5), none] [.int v1] g1 P
  refine sw_istore dX3_greatestPart_66 (by decide) rfl ?_
  show SW sc m_X3_greatestPart _ _ _ 68 [some (.ref r0), some (.int l1), some (.int l2), some (.int l3), some (.int v1), some (.int l5), none] [] g1 P
  exact (k)
theorem b_X3_greatestPart_68 {r0 : Nat} {l1 : Int32} {l2 : Int32} {l3 : Int32} {l4 : Int32} {l5 : Int32} (k : SW sc m_X3_greatestPart d rc rs 15 [some (.ref r0), some (.int l1), some (.int l2), some (.int l3), some (.int l4), some (.int (l5 + 1)), none] [] h P) : SW sc m_X3_greatestPart d rc rs 68 [some (.ref r0), some (.int l1), some (.int l2), some (.int l3), some (.int l4), some (.int l5), none] [] h P := by
  refine sw_iinc (v := l5 + 1) dX3_greatestPart_68 rfl rfl (by decide) rfl ?_
  show SW sc m_X3_greatestPart _ _ _ 71 [some (.ref r0), some (.int l1), some (.int l2), some (.int l3), some (.int l4), some (.int (l5 + 1)), none] [] h P
  exact sw_goto dX3_greatestPart_71 (by decide) (k)
end
