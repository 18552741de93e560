section
variable {sc : Option (List Int32)} {d rc rs : Nat} {h : ab_H} {P : ab_O → ab_H → Prop}
theorem b_X10_median_72 {r0 : Nat} {l1 : Int32} {l2 : Int32} {l3 : Int32} {q0 : Nat} {s1 : Int32} {s2 : Int32} {v1 : Int32} {g1 : ab_H} {fs1 : List Value} (hr1 : (h)[q0]? = some (10, fs1)) (hm1 : MSE m_X10_fails d [.ref q0, .int s1, .int s2] h (some (.int v1)) g1) (kt : v1 = 0 → SW sc m_X10_median (d + 1) rc rs 80 [some (.ref r0), some (.int l1), some (.int l2), some (.int l3), none, none] [] g1 P) (kf : ¬ (v1 = 0) → SW sc m_X10_median (d + 1) rc rs 78 [none, none, none, none, none, none] [] g1 P) : SW sc m_X10_median (d + 1) rc rs 72 [some (.ref r0), some (.int l1), some (.int l2), some (.int l3), none, none] [.int s2, .int s1, .ref q0] h P := by
  refine sw_cV (M := m_X10_median) dX10_median_72 lv_X10_286 hm1 hr1 rfl (by decide) rfl rfl rfl (Nat.le_of_ble_eq_true rfl) (fun _ _ => rfl) rfl ?_
  show SW sc m_X10_median _ _ _ 75 [some (.ref r0), some (.int l1), some (.int l2), some (.int l3), none, none] [.int v1] g1 P
  exact sw_if_eq dX10_median_75 (by decide) (fun q => (kt q)) (fun q => (sw_fg [true, true, true, true, false, false] rfl (kf q)))
theorem b_X10_median_78  (hP : P (.inl (some (.int 0))) h) : SW sc m_X10_median d rc rs 78 [none, none, none, none, none, none] [] h P := by
  refine sw_iconst (v := 0) dX10_median_78 (by decide) ?_
  exact sw_ret (v := (some (.int 0))) dX10_median_79 rt_i hP
theorem b_X10_median_80 {r0 : Nat} {l1 : Int32} {l2 : Int32} {l3 : Int32} (k : SW sc m_X10_median d rc rs 83 [some (.ref r0), some (.int l1), some (.int l2), some (.int l3), none, some (.int 0)] [] h P) : SW sc m_X10_median d rc rs 80 [some (.ref r0), some (.int l1), some (.int l2), some (.int l3), none, none] [] h P := by
  refine sw_iconst (v := 0) dX10_median_80 (by decide) ?_
  refine sw_istore dX10_median_81 (by decide) rfl ?_
  show SW sc m_X10_median _ _ _ 83 [some (.ref r0), some (.int l1), some (.int l2), some (.int l3), none, some (.int 0)] [] h P
  exact (k)
theorem b_X10_median_83 {r0 : Nat} {l1 : Int32} {l2 : Int32} {l3 : Int32} {l5 : Int32} {v5 : Int32} {g5 : ab_H} {fs5 : List Value} (hr5 : (h)[r0]? = some (10, fs5)) (hm5 : MSE m_X10_isBetween d [.ref r0, .int l5, .int l1, .int l2] h (some (.int v5)) g5) (kt : v5 = 0 → SW sc m_X10_median (d + 1) rc rs 116 [some (.ref r0), some (.int l1), some (.int l2), some (.int l3), none, some (.int l5)] [] g5 P) (kf : ¬ (v5 = 0) → SW sc m_X10_median (d + 1) rc rs 94 [some (.ref r0), some (.int l1), some (.int l2), some (.int l3), none, some (.int l5)] [] g5 P) : SW sc m_X10_median (d + 1) rc rs 83 [some (.ref r0), some (.int l1), some (.int l2), some (.int l3), none, some (.int l5)] [] h P := by
  refine sw_aload_n dX10_median_83 rfl ?_
  refine sw_iload dX10_median_84 rfl ?_
  refine sw_iload_n dX10_median_86 rfl ?_
  refine sw_iload_n dX10_median_87 rfl ?_
  refine sw_cV (M := m_X10_median) dX10_median_88 lv_X10_301 hm5 hr5 rfl (by decide) rfl rfl rfl (Nat.le_of_ble_eq_true rfl) (fun _ _ => rfl) rfl ?_
  show SW sc m_X10_median _ _ _ 91 [some (.ref r0), some (.int l1), some (.int l2), some (.int l3), none, some (.int l5)] [.int v5] g5 P
  exact sw_if_eq dX10_median_91 (by decide) (fun q => (kt q)) (fun q => (kf q))
theorem b_X10_median_94 {r0 : Nat} {l1 : Int32} {l2 : Int32} {l3 : Int32} {l5 : Int32} {v5 : Int32} {g5 : ab_H} {fs5 : List Value} (hr5 : (h)[r0]? = some (10, fs5)) (hm5 : MSE m_X10_isBetween d [.ref r0, .int l5, .int l1, .int l3] h (some (.int v5)) g5) (kt : v5 = 0 → SW sc m_X10_median (d + 1) rc rs 116 [some (.ref r0), some (.int l1), some (.int l2), some (.int l3), none, some (.int l5)] [] g5 P) (kf : ¬ (v5 = 0) → SW sc m_X10_median (d + 1) rc rs 105 [some (.ref r0), some (.int l1), some (.int l2), some (.int l3), none, some (.int l5)] [] g5 P) : SW sc m_X10_median (d + 1) rc rs 94 [some (.ref r0), some (.int l1), some (.int l2), some (.int l3), none, some (.int l5)] [] h P := by
  refine sw_aload_n dX10_median_94 rfl ?_
  refine sw_iload dX10_median_95 rfl ?_
  refine sw_iload_n dX10_median_97 rfl ?_
  refine sw_iload_n dX10_median_98 rfl ?_
  refine sw_cV (M := m_X10_median) dX10_median_99 lv_X10_301 hm5 hr5 rfl (by decide) rfl rfl rfl (Nat.le_of_ble_eq_true rfl) (fun _ _ => rfl) rfl ?_
  show SW sc m_X10_median _ _ _ 102 [some (.ref r0), some (.int l1), some (.int l2), some (.int l3), none, some (.int l5)] [.int v5] g5 P
  exact sw_if_eq dX10_median_102 (by decide) (fun q => (kt q)) (fun q => (kf q))
theorem b_X10_median_105 {r0 : Nat} {l1 : Int32} {l2 : Int32} {l3 : Int32} {l5 : Int32} {v5 : Int32} {g5 : ab_H} {fs5 : List Value} (hr5 : (h)[r0]? = some (10, fs5)) (hm5 : MSE m_X10_isBetween d [.ref r0, .int l5, .int l2, .int l3] h (some (.int v5)) g5) (kt : ¬ v5 = 0 → SW sc m_X10_median (d + 1) rc rs 122 [none, none, none, none, none, some (.int l5)] [] g5 P) (kf : v5 = 0 → SW sc m_X10_median (d + 1) rc rs 116 [some (.ref r0), some (.int l1), some (.int l2), some (.int l3), none, some (.int l5)] [] g5 P) : SW sc m_X10_median (d + 1) rc rs 105 [some (.ref r0), some (.int l1), some (.int l2), some (.int l3), none, some (.int l5)] [] h P := by
  refine sw_aload_n dX10_median_105 rfl ?_
  refine sw_iload dX10_median_106 rfl ?_
  refine sw_iload_n dX10_median_108 rfl ?_
  refine sw_iload_n dX10_median_109 rfl ?_
  refine sw_cV (M := m_X10_median) dX10_median_110 lv_X10_301 hm5 hr5 rfl (by decide) rfl rfl rfl (Nat.le_of_ble_eq_true rfl) (fun _ _ => rfl) rfl ?_
  show SW sc m_X10_median _ _ _ 113 [some (.ref r0), some (.int l1), some (.int l2), some (.int l3), none, some (.int l5)] [.int v5] g5 P
  exact sw_if_ne dX10_median_113 (by decide) (fun q => (sw_fg [true, true, true, true, false, false] rfl (kt q))) (fun q => (kf q))
theorem b_X10_median_116 {r0 : Nat} {l1 : Int32} {l2 : Int32} {l3 : Int32} {l5 : Int32} (k : SW sc m_X10_median d rc rs 83 [some (.ref r0), some (.int l1), some (.int l2), some (.int l3), none, some (.int (l5 + 1))] [] h P) : SW sc m_X10_median d rc rs 116 [some (.ref r0), some (.int l1), some (.int l2), some (.int l3), none, some (.int l5)] [] h P := by
  refine sw_iinc (v := l5 + 1) dX10_median_116 rfl rfl (by decide) rfl ?_
  show SW sc m_X10_median _ _ _ 119 [some (.ref r0), some (.int l1), some (.int l2), some (.int l3), none, some (.int (l5 + 1))] [] h P
  exact sw_goto dX10_median_119 (by decide) (k)
theorem b_X10_median_122 {l5 : Int32} (hP : P (.inl (some (.int l5))) h) : SW sc m_X10_median d rc rs 122 [none, none, none, none, none, some (.int l5)] [] h P := by
  refine sw_iload dX10_median_122 rfl ?_
  exact sw_ret (v := (some (.int l5))) dX10_median_124 rt_i hP
theorem b_X10_meanDistance_0 {r0 : Nat} {l1 : Int32} {v4 : Int32} {g4 : ab_H} {fs4 : List Value} (hr4 : (h)[r0]? = some (10, fs4)) (hm4 : MSE m_X10_isVertex d [.ref r0, .int l1] h (some (.int v4)) g4) (kt : ¬ v4 = 0 → SW sc m_X10_meanDistance (d + 1) rc rs 13 [some (.ref r0), some (.int l1), none, none, none] [.ref r0] g4 P) (kf : v4 = 0 → SW sc m_X10_meanDistance (d + 1) rc rs 9 [some (.ref r0), some (.int l1), none, none, none] [.ref r0] g4 P) : SW sc m_X10_meanDistance (d + 1) rc rs 0 [some (.ref r0), some (.int l1), none, none, none] [] h P := by
  refine sw_aload_n dX10_meanDistance_0 rfl ?_
  refine sw_aload_n dX10_meanDistance_1 rfl ?_
  refine sw_iload_n dX10_meanDistance_2 rfl ?_
  refine sw_cV (M := m_X10_meanDistance) dX10_meanDistance_3 lv_X10_283 hm4 hr4 rfl (by decide) rfl rfl rfl (Nat.le_of_ble_eq_true rfl) (fun _ _ => rfl) rfl ?_
  show SW sc m_X10_meanDistance _ _ _ 6 [some (.ref r0), some (.int l1), none, none, none] [.int v4, .ref r0] g4 P
  exact sw_if_ne dX10_meanDistance_6 (by decide) (fun q => (kt q)) (fun q => (kf q))
theorem b_X10_meanDistance_9 {r0 : Nat} {l1 : Int32} {q0 : Nat} (k : SW sc m_X10_meanDistance d rc rs 14 [some (.ref r0), some (.int l1), none, none, none] [.int 1, .ref q0] h P) : SW sc m_X10_meanDistance d rc rs 9 [some (.ref r0), some (.int l1), none, none, none] [.ref q0] h P := by
  refine sw_iconst (v := 1) dX10_meanDistance_9 (by decide) ?_
  exact sw_goto dX10_meanDistance_10 (by decide) (k)
theorem b_X10_meanDistance_13 {r0 : Nat} {l1 : Int32} {q0 : Nat} (k : SW sc m_X10_meanDistance d rc rs 14 [some (.ref r0), some (.int l1), none, none, none] [.int 0, .ref q0] h P) : SW sc m_X10_meanDistance d rc rs 13 [some (.ref r0), some (.int l1), none, none, none] [.ref q0] h P := by
  refine sw_iconst (v := 0) dX10_meanDistance_13 (by decide) ?_
  exact (k)
theorem b_X10_meanDistance_14 {r0 : Nat} {l1 : Int32} {q0 : Nat} {s1 : Int32} {v2 : Int32} {g2 : ab_H} {fs2 : List Value} (hr2 : (h)[q0]? = some (10, fs2)) (hm2 : MSE m_X10_fails d [.ref q0, .int s1, .int 0] h (some (.int v2)) g2) (kt : v2 = 0 → SW sc m_X10_meanDistance (d + 1) rc rs 23 [some (.ref r0), some (.int l1), none, none, none] [] g2 P) (kf : ¬ (v2 = 0) → SW sc m_X10_meanDistance (d + 1) rc rs 21 [none, none, none, none, none] [] g2 P) : SW sc m_X10_meanDistance (d + 1) rc rs 14 [some (.ref r0), some (.int l1), none, none, none] [.int s1, .ref q0] h P := by
  refine sw_iconst (v := 0) dX10_meanDistance_14 (by decide) ?_
  refine sw_cV (M := m_X10_meanDistance) dX10_meanDistance_15 lv_X10_286 hm2 hr2 rfl (by decide) rfl rfl rfl (Nat.le_of_ble_eq_true rfl) (fun _ _ => rfl) rfl ?_
  show SW sc m_X10_meanDistance _ _ _ 18 [some (.ref r0), some (.int l1), none, none, none] [.int v2] g2 P
  exact sw_if_eq dX10_meanDistance_18 (by decide) (fun q => (kt q)) (fun q => (sw_fg [true, true, false, false, false] rfl (kf q)))
theorem b_X10_meanDistance_21  (hP : P (.inl (some (.double 0))) h) : SW sc m_X10_meanDistance d rc rs 21 [none, none, none, none, none] [] h P := by
  refine sw_dconst0 dX10_meanDistance_21 ?_
  exact sw_ret (v := (some (.double 0))) dX10_meanDistance_22 rt_d hP
theorem b_X10_meanDistance_23 {r0 : Nat} {l1 : Int32} {v3 : Int32} {g3 : ab_H} {fs3 : List Value} (hr3 : (h)[r0]? = some (10, fs3)) (hm3 : MSE m_X10_component d [.ref r0, .int l1] h (some (.int v3)) g3) (k : SW sc m_X10_meanDistance (d + 1) rc rs 34 [some (.ref r0), some (.int l1), some (.int v3), some (.int 0), some (.int 0)] [] g3 P) : SW sc m_X10_meanDistance (d + 1) rc rs 23 [some (.ref r0), some (.int l1), none, none, none] [] h P := by
  refine sw_aload_n dX10_meanDistance_23 rfl ?_
  refine sw_iload_n dX10_meanDistance_24 rfl ?_
  refine sw_cV (M := m_X10_meanDistance) dX10_meanDistance_25 lv_X10_84 hm3 hr3 rfl (by decide) rfl rfl rfl (Nat.le_of_ble_eq_true rfl) (fun _ _ => rfl) rfl ?_
  show SW sc m_X10_meanDistance _ _ _ 28 [some (.ref r0), some (.int l1), none, none, none] [.int v3] g3 P
  refine sw_istore_n dX10_meanDistance_28 (by decide) rfl ?_
  show SW sc m_X10_meanDistance _ _ _ 29 [some (.ref r0), some (.int l1), some (.int v3), none, none] [] g3 P
  refine sw_iconst (v := 0) dX10_meanDistance_29 (by decide) ?_
  refine sw_istore_n dX10_meanDistance_30 (by decide) rfl ?_
  show SW sc m_X10_meanDistance _ _ _ 31 [some (.ref r0), some (.int l1), some (.int v3), some (.int 0), none] [] g3 P
  refine sw_iconst (v := 0) dX10_meanDistance_31 (by decide) ?_
  refine sw_istore dX10_meanDistance_32 (by decide) rfl ?_
  show SW sc m_X10_meanDistance _ _ _ 34 [some (.ref r0), some (.int l1), some (.int v3), some (.int 0), some (.int 0)] [] g3 P
  exact (k)
theorem b_X10_meanDistance_34 {r0 : Nat} {l1 : Int32} {l2 : Int32} {l3 : Int32} {l4 : Int32} {fs3 : List Value} {x3 : Int32} (hc3 : (h)[r0]? = some (10, fs3)) (hv3 : fs3[6]? = some (.int x3)) (kt : x3 ≤ l4 → SW sc m_X10_meanDistance d rc rs 72 [none, none, some (.int l2), some (.int l3), none] [] h P) (kf : ¬ (x3 ≤ l4) → SW sc m_X10_meanDistance d rc rs 43 [some (.ref r0), some (.int l1), some (.int l2), some (.int l3), some (.int l4)] [] h P) : SW sc m_X10_meanDistance d rc rs 34 [some (.ref r0), some (.int l1), some (.int l2), some (.int l3), some (.int l4)] [] h P := by
  refine sw_iload dX10_meanDistance_34 rfl ?_
  refine sw_aload_n dX10_meanDistance_36 rfl ?_
  refine sw_getf dX10_meanDistance_37 lf_X10_35 hc3 hv3 ?_
  exact sw_icmp_ge dX10_meanDistance_40 (by decide) (fun q => (sw_fg [true, true, false, false, true] rfl (kt q))) (fun q => (kf q))
theorem b_X10_meanDistance_43 {r0 : Nat} {l1 : Int32} {l2 : Int32} {l3 : Int32} {l4 : Int32} {v4 : Int32} {g4 : ab_H} (hm4 : MSE m_X10_has d [.int l2, .int l4] h (some (.int v4)) g4) (kt : v4 = 0 → SW sc m_X10_meanDistance (d + 1) rc rs 63 [some (.ref r0), some (.int l1), some (.int l2), none, some (.int l4)] [.int l3] g4 P) (kf : ¬ (v4 = 0) → SW sc m_X10_meanDistance (d + 1) rc rs 53 [some (.ref r0), some (.int l1), some (.int l2), none, some (.int l4)] [.int l3] g4 P) : SW sc m_X10_meanDistance (d + 1) rc rs 43 [some (.ref r0), some (.int l1), some (.int l2), some (.int l3), some (.int l4)] [] h P := by
  refine sw_iload_n dX10_meanDistance_43 rfl ?_
  refine sw_iload_n dX10_meanDistance_44 rfl ?_
  refine sw_iload dX10_meanDistance_45 rfl ?_
  refine sw_cS (M := m_X10_meanDistance) dX10_meanDistance_47 ls_X10_70 hm4 rfl rfl (Nat.le_of_ble_eq_true rfl) (fun _ _ => rfl) rfl ?_
  show SW sc m_X10_meanDistance _ _ _ 50 [some (.ref r0), some (.int l1), some (.int l2), some (.int l3), some (.int l4)] [.int v4, .int l3] g4 P
  exact sw_if_eq dX10_meanDistance_50 (by decide) (fun q => (sw_fg [false, false, false, true, false] rfl (kt q))) (fun q => (sw_fg [false, false, false, true, false] rfl (kf q)))
theorem b_X10_meanDistance_53 {r0 : Nat} {l1 : Int32} {l2 : Int32} {l4 : Int32} {s0 : Int32} {v4 : Int32} {g4 : ab_H} {fs4 : List Value} (hr4 : (h)[r0]? = some (10, fs4)) (hm4 : MSE m_X10_far d [.ref r0, .int l1, .int l4] h (some (.int v4)) g4) (k : SW sc m_X10_meanDistance (d + 1) rc rs 64 [some (.ref r0), some (.int l1), some (.int l2), none, some (.int l4)] [.int v4, .int s0] g4 P) : SW sc m_X10_meanDistance (d + 1) rc rs 53 [some (.ref r0), some (.int l1), some (.int l2), none, some (.int l4)] [.int s0] h P := by
  refine sw_aload_n dX10_meanDistance_53 rfl ?_
  refine sw_iload_n dX10_meanDistance_54 rfl ?_
  refine sw_iload dX10_meanDistance_55 rfl ?_
  refine sw_cV (M := m_X10_meanDistance) dX10_meanDistance_57 lv_X10_90 hm4 hr4 rfl (by decide) rfl rfl rfl (Nat.le_of_ble_eq_true rfl) (fun _ _ => rfl) rfl ?_
  show SW sc m_X10_meanDistance _ _ _ 60 [some (.ref r0), some (.int l1), some (.int l2), none, some (.int l4)] [.int v4, .int s0] g4 P
  exact sw_goto dX10_meanDistance_60 (by decide) (k)
theorem b_X10_meanDistance_63 {r0 : Nat} {l1 : Int32} {l2 : Int32} {l4 : Int32} {s0 : Int32} (k : SW sc m_X10_meanDistance d rc rs 64 [some (.ref r0), some (.int l1), some (.int l2), none, some (.int l4)] [.int 0, .int s0] h P) : SW sc m_X10_meanDistance d rc rs 63 [some (.ref r0), some (.int l1), some (.int l2), none, some (.int l4)] [.int s0] h P := by
  refine sw_iconst (v := 0) dX10_meanDistance_63 (by decide) ?_
  exact (k)
theorem b_X10_meanDistance_64 {r0 : Nat} {l1 : Int32} {l2 : Int32} {l4 : Int32} {s0 : Int32} {s1 : Int32} (k : SW sc m_X10_meanDistance d rc rs 34 [some (.ref r0), some (.int l1), some (.int l2), some (.int (s0 + s1)), some (.int (l4 + 1))] [] h P) : SW sc m_X10_meanDistance d rc rs 64 [some (.ref r0), some (.int l1), some (.int l2), none, some (.int l4)] [.int s1, .int s0] h P := by
  refine sw_iadd dX10_meanDistance_64 ?_
  refine sw_istore_n dX10_meanDistance_65 (by decide) rfl ?_
  show SW sc m_X10_meanDistance _ _ _ 66 [some (.ref r0), some (.int l1), some (.int l2), some (.int (s0 + s1)), some (.int l4)] [] h P
  refine sw_iinc (v := l4 + 1) dX10_meanDistance_66 rfl rfl (by decide) rfl ?_
  show SW sc m_X10_meanDistance _ _ _ 69 [some (.ref r0), some (.int l1), some (.int l2), some (.int (s0 + s1)), some (.int (l4 + 1))] [] h P
  exact sw_goto dX10_meanDistance_69 (by decide) (k)
theorem b_X10_meanDistance_72 {l2 : Int32} {l3 : Int32} {v4 : Int32} {g4 : ab_H} (hm4 : MSE m_X10_ones d [.int l2] h (some (.int v4)) g4) (hz6 : vf_n64 (FP.ddiv (FP.i2d l3) (FP.i2d v4))) (hP : P (.inl (some (.double (FP.ddiv (FP.i2d l3) (FP.i2d v4))))) g4) : SW sc m_X10_meanDistance (d + 1) rc rs 72 [none, none, some (.int l2), some (.int l3), none] [] h P := by
  refine sw_iload_n dX10_meanDistance_72 rfl ?_
  refine sw_i2d dX10_meanDistance_73 ?_
  refine sw_iload_n dX10_meanDistance_74 rfl ?_
  refine sw_cS (M := m_X10_meanDistance) dX10_meanDistance_75 ls_X10_111 hm4 rfl rfl (Nat.le_of_ble_eq_true rfl) (fun _ _ => rfl) rfl ?_
  show SW sc m_X10_meanDistance _ _ _ 78 [none, none, some (.int l2), some (.int l3), none] [.int v4, .double (FP.i2d l3)] g4 P
  refine sw_i2d dX10_meanDistance_78 ?_
  refine sw_ddiv dX10_meanDistance_79 hz6 ?_
  exact sw_ret (v := (some (.double (FP.ddiv (FP.i2d l3) (FP.i2d v4))))) dX10_meanDistance_80 rt_d hP
theorem b_X10_balance_0 {r0 : Nat} {l1 : Int32} {v4 : Int32} {g4 : ab_H} {fs4 : List Value} (hr4 : (h)[r0]? = some (10, fs4)) (hm4 : MSE m_X10_isVertex d [.ref r0, .int l1] h (some (.int v4)) g4) (kt : ¬ v4 = 0 → SW sc m_X10_balance (d + 1) rc rs 13 [some (.ref r0), some (.int l1)] [.ref r0] g4 P) (kf : v4 = 0 → SW sc m_X10_balance (d + 1) rc rs 9 [some (.ref r0), some (.int l1)] [.ref r0] g4 P) : SW sc m_X10_balance (d + 1) rc rs 0 [some (.ref r0), some (.int l1)] [] h P := by
  refine sw_aload_n dX10_balance_0 rfl ?_
  refine sw_aload_n dX10_balance_1 rfl ?_
  refine sw_iload_n dX10_balance_2 rfl ?_
  refine sw_cV (M := m_X10_balance) dX10_balance_3 lv_X10_283 hm4 hr4 rfl (by decide) rfl rfl rfl (Nat.le_of_ble_eq_true rfl) (fun _ _ => rfl) rfl ?_
  show SW sc m_X10_balance _ _ _ 6 [some (.ref r0), some (.int l1)] [.int v4, .ref r0] g4 P
  exact sw_if_ne dX10_balance_6 (by decide) (fun q => (kt q)) (fun q => (kf q))
theorem b_X10_balance_9 {r0 : Nat} {l1 : Int32} {q0 : Nat} (k : SW sc m_X10_balance d rc rs 14 [some (.ref r0), some (.int l1)] [.int 1, .ref q0] h P) : SW sc m_X10_balance d rc rs 9 [some (.ref r0), some (.int l1)] [.ref q0] h P := by
  refine sw_iconst (v := 1) dX10_balance_9 (by decide) ?_
  exact sw_goto dX10_balance_10 (by decide) (k)
theorem b_X10_balance_13 {r0 : Nat} {l1 : Int32} {q0 : Nat} (k : SW sc m_X10_balance d rc rs 14 [some (.ref r0), some (.int l1)] [.int 0, .ref q0] h P) : SW sc m_X10_balance d rc rs 13 [some (.ref r0), some (.int l1)] [.ref q0] h P := by
  refine sw_iconst (v := 0) dX10_balance_13 (by decide) ?_
  exact (k)
theorem b_X10_balance_14 {r0 : Nat} {l1 : Int32} {q0 : Nat} {s1 : Int32} {v2 : Int32} {g2 : ab_H} {fs2 : List Value} (hr2 : (h)[q0]? = some (10, fs2)) (hm2 : MSE m_X10_fails d [.ref q0, .int s1, .int 0] h (some (.int v2)) g2) (kt : v2 = 0 → SW sc m_X10_balance (d + 1) rc rs 23 [some (.ref r0), some (.int l1)] [] g2 P) (kf : ¬ (v2 = 0) → SW sc m_X10_balance (d + 1) rc rs 21 [none, none] [] g2 P) : SW sc m_X10_balance (d + 1) rc rs 14 [some (.ref r0), some (.int l1)] [.int s1, .ref q0] h P := by
  refine sw_iconst (v := 0) dX10_balance_14 (by decide) ?_
  refine sw_cV (M := m_X10_balance) dX10_balance_15 lv_X10_286 hm2 hr2 rfl (by decide) rfl rfl rfl (Nat.le_of_ble_eq_true rfl) (fun _ _ => rfl) rfl ?_
  show SW sc m_X10_balance _ _ _ 18 [some (.ref r0), some (.int l1)] [.int v2] g2 P
  exact sw_if_eq dX10_balance_18 (by decide) (fun q => (kt q)) (fun q => (sw_fg [true, true] rfl (kf q)))
theorem b_X10_balance_21  (hP : P (.inl (some (.float 0))) h) : SW sc m_X10_balance d rc rs 21 [none, none] [] h P := by
  refine sw_fconst0 dX10_balance_21 ?_
  exact sw_ret (v := (some (.float 0))) dX10_balance_22 rt_f hP
theorem b_X10_balance_23 {r0 : Nat} {l1 : Int32} {v4 : Int32} {g4 : ab_H} {fs4 : List Value} {v8 : Int32} {g8 : ab_H} {fs8 : List Value} {v9 : Int32} {g9 : ab_H} (hr4 : (h)[r0]? = some (10, fs4)) (hm4 : MSE m_X10_greatestPart d [.ref r0, .int l1, .int 0] h (some (.int v4)) g4) (hr8 : (g4)[r0]? = some (10, fs8)) (hm8 : MSE m_X10_component d [.ref r0, .int l1] g4 (some (.int v8)) g8) (hm9 : MSE m_X10_ones d [.int v8] g8 (some (.int v9)) g9) (hz11 : vf_n32 (FP.fdiv (FP.i2f v4) (FP.i2f v9))) (hP : P (.inl (some (.float (FP.fdiv (FP.i2f v4) (FP.i2f v9))))) g9) : SW sc m_X10_balance (d + 1) rc rs 23 [some (.ref r0), some (.int l1)] [] h P := by
  refine sw_aload_n dX10_balance_23 rfl ?_
  refine sw_iload_n dX10_balance_24 rfl ?_
  refine sw_iconst (v := 0) dX10_balance_25 (by decide) ?_
  refine sw_cV (M := m_X10_balance) dX10_balance_26 lv_X10_105 hm4 hr4 rfl (by decide) rfl rfl rfl (Nat.le_of_ble_eq_true rfl) (fun _ _ => rfl) rfl ?_
  show SW sc m_X10_balance _ _ _ 29 [some (.ref r0), some (.int l1)] [.int v4] g4 P
  refine sw_i2f dX10_balance_29 ?_
  refine sw_aload_n dX10_balance_30 rfl ?_
  refine sw_iload_n dX10_balance_31 rfl ?_
  refine sw_cV (M := m_X10_balance) dX10_balance_32 lv_X10_84 hm8 hr8 rfl (by decide) rfl rfl rfl (Nat.le_of_ble_eq_true rfl) (fun _ _ => rfl) rfl ?_
  show SW sc m_X10_balance _ _ _ 35 [some (.ref r0), some (.int l1)] [.int v8, .float (FP.i2f v4)] g8 P
  refine sw_cS (M := m_X10_balance) dX10_balance_35 ls_X10_111 hm9 rfl rfl (Nat.le_of_ble_eq_true rfl) (fun _ _ => rfl) rfl ?_
  show SW sc m_X10_balance _ _ _ 38 [some (.ref r0), some (.int l1)] [.int v9, .float (FP.i2f v4)] g9 P
  refine sw_i2f dX10_balance_38 ?_
  refine sw_fdiv dX10_balance_39 hz11 ?_
  exact sw_ret (v := (some (.float (FP.fdiv (FP.i2f v4) (FP.i2f v9))))) dX10_balance_40 rt_f hP
theorem b_X10_isTree_0 {r0 : Nat} {v3 : Int32} {g3 : ab_H} {fs3 : List Value} {fs6 : List Value} {x6 : Int32} (hr3 : (h)[r0]? = some (10, fs3)) (hm3 : MSE m_X10_component d [.ref r0, .int 0] h (some (.int v3)) g3) (hc6 : (g3)[r0]? = some (10, fs6)) (hv6 : fs6[6]? = some (.int x6)) (kt : ¬ v3 = ((1 <<< (x6 &&& 31)) - 1) → SW sc m_X10_isTree (d + 1) rc rs 20 [none] [] g3 P) (kf : v3 = ((1 <<< (x6 &&& 31)) - 1) → SW sc m_X10_isTree (d + 1) rc rs 16 [none] [] g3 P) : SW sc m_X10_isTree (d + 1) rc rs 0 [some (.ref r0)] [] h P := by
  refine sw_aload_n dX10_isTree_0 rfl ?_
  refine sw_iconst (v := 0) dX10_isTree_1 (by decide) ?_
  refine sw_cV (M := m_X10_isTree) dX10_isTree_2 lv_X10_84 hm3 hr3 rfl (by decide) rfl rfl rfl (Nat.le_of_ble_eq_true rfl) (fun _ _ => rfl) rfl ?_
  show SW sc m_X10_isTree _ _ _ 5 [some (.ref r0)] [.int v3] g3 P
  refine sw_iconst (v := 1) dX10_isTree_5 (by decide) ?_
  refine sw_aload_n dX10_isTree_6 rfl ?_
  refine sw_getf dX10_isTree_7 lf_X10_35 hc6 hv6 ?_
  refine sw_ishl dX10_isTree_10 ?_
  refine sw_iconst (v := 1) dX10_isTree_11 (by decide) ?_
  refine sw_isub dX10_isTree_12 ?_
  exact sw_icmp_ne dX10_isTree_13 (by decide) (fun q => (sw_fg [true] rfl (kt q))) (fun q => (sw_fg [true] rfl (kf q)))
theorem b_X10_isTree_16  (k : SW sc m_X10_isTree d rc rs 21 [none] [.int 1] h P) : SW sc m_X10_isTree d rc rs 16 [none] [] h P := by
  refine sw_iconst (v := 1) dX10_isTree_16 (by decide) ?_
  exact sw_goto dX10_isTree_17 (by decide) (k)
theorem b_X10_isTree_20  (k : SW sc m_X10_isTree d rc rs 21 [none] [.int 0] h P) : SW sc m_X10_isTree d rc rs 20 [none] [] h P := by
  refine sw_iconst (v := 0) dX10_isTree_20 (by decide) ?_
  exact (k)
theorem b_X10_isTree_21 {s0 : Int32} (hz1 : narrow .boolean (.int s0) = .int s0) (hP : P (.inl (some (.int s0))) h) : SW sc m_X10_isTree d rc rs 21 [none] [.int s0] h P := by
  exact sw_ret (v := (some (.int s0))) dX10_isTree_21 (rt_n hz1) hP
theorem b_X10_laysCode_0 {r0 : Nat} {g2 : ab_H} {fs2 : List Value} (hr2 : (h)[r0]? = some (10, fs2)) (hm2 : MSE m_X10_layOther d [.ref r0] h none g2) (k : SW sc m_X10_laysCode (d + 1) rc rs 6 [some (.ref r0), some (.int 0), none] [] g2 P) : SW sc m_X10_laysCode (d + 1) rc rs 0 [some (.ref r0), none, none] [] h P := by
  refine sw_aload_n dX10_laysCode_0 rfl ?_
  refine sw_cV (M := m_X10_laysCode) dX10_laysCode_1 lv_X10_277 hm2 hr2 rfl (by decide) rfl rfl rfl (Nat.le_of_ble_eq_true rfl) (fun _ _ => rfl) rfl ?_
  show SW sc m_X10_laysCode _ _ _ 4 [some (.ref r0), none, none] [] g2 P
  refine sw_iconst (v := 0) dX10_laysCode_4 (by decide) ?_
  refine sw_istore_n dX10_laysCode_5 (by decide) rfl ?_
  show SW sc m_X10_laysCode _ _ _ 6 [some (.ref r0), some (.int 0), none] [] g2 P
  exact (k)
theorem b_X10_laysCode_6 {r0 : Nat} {l1 : Int32} {fs3 : List Value} {x3 : Int32} {v4 : Int32} {g4 : ab_H} (hc3 : (h)[r0]? = some (10, fs3)) (hv3 : fs3[6]? = some (.int x3)) (hm4 : MSE m_X10_codeMany d [.int x3] h (some (.int v4)) g4) (kt : v4 ≤ l1 → SW sc m_X10_laysCode (d + 1) rc rs 73 [none, none, none] [] g4 P) (kf : ¬ (v4 ≤ l1) → SW sc m_X10_laysCode (d + 1) rc rs 17 [some (.ref r0), some (.int l1), none] [] g4 P) : SW sc m_X10_laysCode (d + 1) rc rs 6 [some (.ref r0), some (.int l1), none] [] h P := by
  refine sw_iload_n dX10_laysCode_6 rfl ?_
  refine sw_aload_n dX10_laysCode_7 rfl ?_
  refine sw_getf dX10_laysCode_8 lf_X10_35 hc3 hv3 ?_
  refine sw_cS (M := m_X10_laysCode) dX10_laysCode_11 ls_X10_215 hm4 rfl rfl (Nat.le_of_ble_eq_true rfl) (fun _ _ => rfl) rfl ?_
  show SW sc m_X10_laysCode _ _ _ 14 [some (.ref r0), some (.int l1), none] [.int v4, .int l1] g4 P
  exact sw_icmp_ge dX10_laysCode_14 (by decide) (fun q => (sw_fg [true, true, false] rfl (kt q))) (fun q => (kf q))
theorem b_X10_laysCode_17 {r0 : Nat} {l1 : Int32} (k : SW sc m_X10_laysCode d rc rs 19 [some (.ref r0), some (.int l1), some (.int 0)] [] h P) : SW sc m_X10_laysCode d rc rs 17 [some (.ref r0), some (.int l1), none] [] h P := by
  refine sw_iconst (v := 0) dX10_laysCode_17 (by decide) ?_
  refine sw_istore_n dX10_laysCode_18 (by decide) rfl ?_
  show SW sc m_X10_laysCode _ _ _ 19 [some (.ref r0), some (.int l1), some (.int 0)] [] h P
  exact (k)
theorem b_X10_laysCode_19 {r0 : Nat} {l1 : Int32} {l2 : Int32} {fs2 : List Value} {a2 : Nat} {vs4 : List Value} {x4 : Int32} {v5 : Int32} {g5 : ab_H} (hc2 : (h)[r0]? = some (10, fs2)) (hv2 : fs2[2]? = some (.ref a2)) (hc4 : (h)[a2]? = some (100, vs4)) (ho4 : ¬ l2 < 0) (hi4 : vs4[l2.toNatClampNeg]? = some (.int x4)) (hm5 : MSE m_X10_ones d [.int x4] h (some (.int v5)) g5) (kt : v5 = 1 → SW sc m_X10_laysCode (d + 1) rc rs 38 [some (.ref r0), some (.int l1), some (.int l2)] [] g5 P) (kf : ¬ (v5 = 1) → SW sc m_X10_laysCode (d + 1) rc rs 32 [some (.ref r0), some (.int l1), some (.int l2)] [] g5 P) : SW sc m_X10_laysCode (d + 1) rc rs 19 [some (.ref r0), some (.int l1), some (.int l2)] [] h P := by
  refine sw_aload_n dX10_laysCode_19 rfl ?_
  refine sw_getf dX10_laysCode_20 lf_X10_23 hc2 hv2 ?_
  refine sw_iload_n dX10_laysCode_23 rfl ?_
  refine sw_iald dX10_laysCode_24 hc4 ho4 hi4 ?_
  refine sw_cS (M := m_X10_laysCode) dX10_laysCode_25 ls_X10_111 hm5 rfl rfl (Nat.le_of_ble_eq_true rfl) (fun _ _ => rfl) rfl ?_
  show SW sc m_X10_laysCode _ _ _ 28 [some (.ref r0), some (.int l1), some (.int l2)] [.int v5] g5 P
  refine sw_iconst (v := 1) dX10_laysCode_28 (by decide) ?_
  exact sw_icmp_eq dX10_laysCode_29 (by decide) (fun q => (kt q)) (fun q => (kf q))
theorem b_X10_laysCode_32 {r0 : Nat} {l1 : Int32} {l2 : Int32} (k : SW sc m_X10_laysCode d rc rs 19 [some (.ref r0), some (.int l1), some (.int (l2 + 1))] [] h P) : SW sc m_X10_laysCode d rc rs 32 [some (.ref r0), some (.int l1), some (.int l2)] [] h P := by
  refine sw_iinc (v := l2 + 1) dX10_laysCode_32 rfl rfl (by decide) rfl ?_
  show SW sc m_X10_laysCode _ _ _ 35 [some (.ref r0), some (.int l1), some (.int (l2 + 1))] [] h P
  exact sw_goto dX10_laysCode_35 (by decide) (k)
theorem b_X10_laysCode_38 {r0 : Nat} {l1 : Int32} {l2 : Int32} {fs2 : List Value} {a2 : Nat} {fs5 : List Value} {a5 : Nat} {vs7 : List Value} {x7 : Int32} {v8 : Int32} {g8 : ab_H} {vs9 : List Value} {fs11 : List Value} {a11 : Nat} {fs14 : List Value} {a14 : Nat} {vs16 : List Value} {x16 : Int32} {g17 : ab_H} (hc2 : (h)[r0]? = some (10, fs2)) (hv2 : fs2[22]? = some (.ref a2)) (hc5 : (h)[r0]? = some (10, fs5)) (hv5 : fs5[2]? = some (.ref a5)) (hc7 : (h)[a5]? = some (100, vs7)) (ho7 : ¬ l2 < 0) (hi7 : vs7[l2.toNatClampNeg]? = some (.int x7)) (hm8 : MSE m_X10_lowest d [.int x7] h (some (.int v8)) g8) (hc9 : (g8)[a2]? = some (100, vs9)) (ho9 : ¬ l1 < 0) (hl9 : l1.toNatClampNeg < vs9.length) (hc11 : ((g8).set a2 (100, vs9.set l1.toNatClampNeg (.int v8)))[r0]? = some (10, fs11)) (hv11 : fs11[2]? = some (.ref a11)) (hc14 : ((g8).set a2 (100, vs9.set l1.toNatClampNeg (.int v8)))[r0]? = some (10, fs14)) (hv14 : fs14[22]? = some (.ref a14)) (hc16 : ((g8).set a2 (100, vs9.set l1.toNatClampNeg (.int v8)))[a14]? = some (100, vs16)) (ho16 : ¬ l1 < 0) (hi16 : vs16[l1.toNatClampNeg]? = some (.int x16)) (hm17 : MSE m_X10_parts d [.ref a11, .int l2, .int x16] ((g8).set a2 (100, vs9.set l1.toNatClampNeg (.int v8))) none g17) (k : SW sc m_X10_laysCode (d + 1) rc rs 6 [some (.ref r0), some (.int (l1 + 1)), none] [] g17 P) : SW sc m_X10_laysCode (d + 1) rc rs 38 [some (.ref r0), some (.int l1), some (.int l2)] [] h P := by
  refine sw_aload_n dX10_laysCode_38 rfl ?_
  refine sw_getf dX10_laysCode_39 lf_X10_44 hc2 hv2 ?_
  refine sw_iload_n dX10_laysCode_42 rfl ?_
  refine sw_aload_n dX10_laysCode_43 rfl ?_
  refine sw_getf dX10_laysCode_44 lf_X10_23 hc5 hv5 ?_
  refine sw_iload_n dX10_laysCode_47 rfl ?_
  refine sw_iald dX10_laysCode_48 hc7 ho7 hi7 ?_
  refine sw_cS (M := m_X10_laysCode) dX10_laysCode_49 ls_X10_87 hm8 rfl rfl (Nat.le_of_ble_eq_true rfl) (fun _ _ => rfl) rfl ?_
  show SW sc m_X10_laysCode _ _ _ 52 [some (.ref r0), some (.int l1), some (.int l2)] [.int v8, .int l1, .ref a2] g8 P
  refine sw_iast dX10_laysCode_52 hc9 ho9 hl9 ?_
  refine sw_aload_n dX10_laysCode_53 rfl ?_
  refine sw_getf dX10_laysCode_54 lf_X10_23 hc11 hv11 ?_
  refine sw_iload_n dX10_laysCode_57 rfl ?_
  refine sw_aload_n dX10_laysCode_58 rfl ?_
  refine sw_getf dX10_laysCode_59 lf_X10_44 hc14 hv14 ?_
  refine sw_iload_n dX10_laysCode_62 rfl ?_
  refine sw_iald dX10_laysCode_63 hc16 ho16 hi16 ?_
  refine sw_cS (M := m_X10_laysCode) dX10_laysCode_64 ls_X10_274 hm17 rfl rfl (Nat.le_of_ble_eq_true rfl) (fun _ _ => rfl) rfl ?_
  show SW sc m_X10_laysCode _ _ _ 67 [some (.ref r0), some (.int l1), some (.int l2)] [] g17 P
  refine sw_iinc (v := l1 + 1) dX10_laysCode_67 rfl rfl (by decide) rfl ?_
  show SW sc m_X10_laysCode _ _ _ 70 [some (.ref r0), some (.int (l1 + 1)), some (.int l2)] [] g17 P
  exact sw_goto dX10_laysCode_70 (by decide) (sw_fg [false, false, true] rfl (k))
theorem b_X10_laysCode_73  (hP : P (.inl none) h) : SW sc m_X10_laysCode d rc rs 73 [none, none, none] [] h P := by
  exact sw_ret (v := none) dX10_laysCode_73 rt_v hP
theorem b_X10_code_0 {r0 : Nat} {l1 : Int32} {v2 : Int32} {g2 : ab_H} {fs2 : List Value} (hr2 : (h)[r0]? = some (10, fs2)) (hm2 : MSE m_X10_isTree d [.ref r0] h (some (.int v2)) g2) (kt : ¬ v2 = 0 → SW sc m_X10_code (d + 1) rc rs 14 [some (.ref r0), some (.int l1), some (.int v2)] [.ref r0] g2 P) (kf : v2 = 0 → SW sc m_X10_code (d + 1) rc rs 10 [some (.ref r0), some (.int l1), some (.int v2)] [.ref r0] g2 P) : SW sc m_X10_code (d + 1) rc rs 0 [some (.ref r0), some (.int l1), none] [] h P := by
  refine sw_aload_n dX10_code_0 rfl ?_
  refine sw_cV (M := m_X10_code) dX10_code_1 lv_X10_304 hm2 hr2 rfl (by decide) rfl rfl rfl (Nat.le_of_ble_eq_true rfl) (fun _ _ => rfl) rfl ?_
  show SW sc m_X10_code _ _ _ 4 [some (.ref r0), some (.int l1), none] [.int v2] g2 P
  refine sw_istore_n dX10_code_4 (by decide) rfl ?_
  show SW sc m_X10_code _ _ _ 5 [some (.ref r0), some (.int l1), some (.int v2)] [] g2 P
  refine sw_aload_n dX10_code_5 rfl ?_
  refine sw_iload_n dX10_code_6 rfl ?_
  exact sw_if_ne dX10_code_7 (by decide) (fun q => (kt q)) (fun q => (kf q))
theorem b_X10_code_10 {r0 : Nat} {l1 : Int32} {l2 : Int32} {q0 : Nat} (k : SW sc m_X10_code d rc rs 15 [some (.ref r0), some (.int l1), some (.int l2)] [.int 1, .ref q0] h P) : SW sc m_X10_code d rc rs 10 [some (.ref r0), some (.int l1), some (.int l2)] [.ref q0] h P := by
  refine sw_iconst (v := 1) dX10_code_10 (by decide) ?_
  exact sw_goto dX10_code_11 (by decide) (k)
theorem b_X10_code_14 {r0 : Nat} {l1 : Int32} {l2 : Int32} {q0 : Nat} (k : SW sc m_X10_code d rc rs 15 [some (.ref r0), some (.int l1), some (.int l2)] [.int 0, .ref q0] h P) : SW sc m_X10_code d rc rs 14 [some (.ref r0), some (.int l1), some (.int l2)] [.ref q0] h P := by
  refine sw_iconst (v := 0) dX10_code_14 (by decide) ?_
  exact (k)
theorem b_X10_code_15 {r0 : Nat} {l1 : Int32} {l2 : Int32} {q0 : Nat} {s1 : Int32} (kt : l2 = 0 → SW sc m_X10_code d rc rs 40 [some (.ref r0), some (.int l1), none] [.int s1, .ref q0] h P) (kf : ¬ (l2 = 0) → SW sc m_X10_code d rc rs 19 [some (.ref r0), some (.int l1), none] [.int s1, .ref q0] h P) : SW sc m_X10_code d rc rs 15 [some (.ref r0), some (.int l1), some (.int l2)] [.int s1, .ref q0] h P := by
  refine sw_iload_n dX10_code_15 rfl ?_
  exact sw_if_eq dX10_code_16 (by decide) (fun q => (sw_fg [false, false, true] rfl (kt q))) (fun q => (sw_fg [false, false, true] rfl (kf q)))
theorem b_X10_code_19 {r0 : Nat} {l1 : Int32} {q0 : Nat} {s1 : Int32} {fs4 : List Value} {x4 : Int32} {v5 : Int32} {g5 : ab_H} {v8 : Int32} {g8 : ab_H} (hc4 : (h)[r0]? = some (10, fs4)) (hv4 : fs4[6]? = some (.int x4)) (hm5 : MSE m_X10_codeMany d [.int x4] h (some (.int v5)) g5) (hm8 : MSE m_X10_isIn d [.int l1, .int 0, .int (v5 - 1)] g5 (some (.int v8)) g8) (kt : ¬ v8 = 0 → SW sc m_X10_code (d + 1) rc rs 40 [some (.ref r0), some (.int l1), none] [.int s1, .ref q0] g8 P) (kf : v8 = 0 → SW sc m_X10_code (d + 1) rc rs 36 [some (.ref r0), some (.int l1), none] [.int s1, .ref q0] g8 P) : SW sc m_X10_code (d + 1) rc rs 19 [some (.ref r0), some (.int l1), none] [.int s1, .ref q0] h P := by
  refine sw_iload_n dX10_code_19 rfl ?_
  refine sw_iconst (v := 0) dX10_code_20 (by decide) ?_
  refine sw_aload_n dX10_code_21 rfl ?_
  refine sw_getf dX10_code_22 lf_X10_35 hc4 hv4 ?_
  refine sw_cS (M := m_X10_code) dX10_code_25 ls_X10_215 hm5 rfl rfl (Nat.le_of_ble_eq_true rfl) (fun _ _ => rfl) rfl ?_
  show SW sc m_X10_code _ _ _ 28 [some (.ref r0), some (.int l1), none] [.int v5, .int 0, .int l1, .int s1, .ref q0] g5 P
  refine sw_iconst (v := 1) dX10_code_28 (by decide) ?_
  refine sw_isub dX10_code_29 ?_
  refine sw_cS (M := m_X10_code) dX10_code_30 ls_X10_153 hm8 rfl rfl (Nat.le_of_ble_eq_true rfl) (fun _ _ => rfl) rfl ?_
  show SW sc m_X10_code _ _ _ 33 [some (.ref r0), some (.int l1), none] [.int v8, .int s1, .ref q0] g8 P
  exact sw_if_ne dX10_code_33 (by decide) (fun q => (kt q)) (fun q => (kf q))
theorem b_X10_code_36 {r0 : Nat} {l1 : Int32} {q0 : Nat} {s1 : Int32} (k : SW sc m_X10_code d rc rs 41 [some (.ref r0), some (.int l1), none] [.int 1, .int s1, .ref q0] h P) : SW sc m_X10_code d rc rs 36 [some (.ref r0), some (.int l1), none] [.int s1, .ref q0] h P := by
  refine sw_iconst (v := 1) dX10_code_36 (by decide) ?_
  exact sw_goto dX10_code_37 (by decide) (k)
theorem b_X10_code_40 {r0 : Nat} {l1 : Int32} {q0 : Nat} {s1 : Int32} (k : SW sc m_X10_code d rc rs 41 [some (.ref r0), some (.int l1), none] [.int 0, .int s1, .ref q0] h P) : SW sc m_X10_code d rc rs 40 [some (.ref r0), some (.int l1), none] [.int s1, .ref q0] h P := by
  refine sw_iconst (v := 0) dX10_code_40 (by decide) ?_
  exact (k)
theorem b_X10_code_41 {r0 : Nat} {l1 : Int32} {q0 : Nat} {s1 : Int32} {s2 : Int32} {v1 : Int32} {g1 : ab_H} {fs1 : List Value} (hr1 : (h)[q0]? = some (10, fs1)) (hm1 : MSE m_X10_fails d [.ref q0, .int s1, .int s2] h (some (.int v1)) g1) (kt : v1 = 0 → SW sc m_X10_code (d + 1) rc rs 49 [some (.ref r0), some (.int l1), none] [] g1 P) (kf : ¬ (v1 = 0) → SW sc m_X10_code (d + 1) rc rs 47 [none, none, none] [] g1 P) : SW sc m_X10_code (d + 1) rc rs 41 [some (.ref r0), some (.int l1), none] [.int s2, .int s1, .ref q0] h P := by
  refine sw_cV (M := m_X10_code) dX10_code_41 lv_X10_286 hm1 hr1 rfl (by decide) rfl rfl rfl (Nat.le_of_ble_eq_true rfl) (fun _ _ => rfl) rfl ?_
  show SW sc m_X10_code _ _ _ 44 [some (.ref r0), some (.int l1), none] [.int v1] g1 P
  exact sw_if_eq dX10_code_44 (by decide) (fun q => (kt q)) (fun q => (sw_fg [true, true, false] rfl (kf q)))
theorem b_X10_code_47  (hP : P (.inl (some (.int 0))) h) : SW sc m_X10_code d rc rs 47 [none, none, none] [] h P := by
  refine sw_iconst (v := 0) dX10_code_47 (by decide) ?_
  exact sw_ret (v := (some (.int 0))) dX10_code_48 rt_i hP
theorem b_X10_code_49 {r0 : Nat} {l1 : Int32} {g2 : ab_H} {fs2 : List Value} {fs4 : List Value} {a4 : Nat} {vs6 : List Value} {x6 : Int32} (hr2 : (h)[r0]? = some (10, fs2)) (hm2 : MSE m_X10_laysCode d [.ref r0] h none g2) (hc4 : (g2)[r0]? = some (10, fs4)) (hv4 : fs4[22]? = some (.ref a4)) (hc6 : (g2)[a4]? = some (100, vs6)) (ho6 : ¬ l1 < 0) (hi6 : vs6[l1.toNatClampNeg]? = some (.int x6)) (hP : P (.inl (some (.int x6))) g2) : SW sc m_X10_code (d + 1) rc rs 49 [some (.ref r0), some (.int l1), none] [] h P := by
  refine sw_aload_n dX10_code_49 rfl ?_
  refine sw_cV (M := m_X10_code) dX10_code_50 lv_X10_307 hm2 hr2 rfl (by decide) rfl rfl rfl (Nat.le_of_ble_eq_true rfl) (fun _ _ => rfl) rfl ?_
  show SW sc m_X10_code _ _ _ 53 [some (.ref r0), some (.int l1), none] [] g2 P
  refine sw_aload_n dX10_code_53 rfl ?_
  refine sw_getf dX10_code_54 lf_X10_44 hc4 hv4 ?_
  refine sw_iload_n dX10_code_57 rfl ?_
  refine sw_iald dX10_code_58 hc6 ho6 hi6 ?_
  exact sw_ret (v := (some (.int x6))) dX10_code_59 rt_i hP
theorem b_X10_rankNow_0 {r0 : Nat} {g2 : ab_H} {fs2 : List Value} (hr2 : (h)[r0]? = some (10, fs2)) (hm2 : MSE m_X10_laysCode d [.ref r0] h none g2) (k : SW sc m_X10_rankNow (d + 1) rc rs 8 [some (.ref r0), some (.int 0), some (.int 0)] [] g2 P) : SW sc m_X10_rankNow (d + 1) rc rs 0 [some (.ref r0), none, none] [] h P := by
  refine sw_aload_n dX10_rankNow_0 rfl ?_
  refine sw_cV (M := m_X10_rankNow) dX10_rankNow_1 lv_X10_307 hm2 hr2 rfl (by decide) rfl rfl rfl (Nat.le_of_ble_eq_true rfl) (fun _ _ => rfl) rfl ?_
  show SW sc m_X10_rankNow _ _ _ 4 [some (.ref r0), none, none] [] g2 P
  refine sw_iconst (v := 0) dX10_rankNow_4 (by decide) ?_
  refine sw_istore_n dX10_rankNow_5 (by decide) rfl ?_
  show SW sc m_X10_rankNow _ _ _ 6 [some (.ref r0), some (.int 0), none] [] g2 P
  refine sw_iconst (v := 0) dX10_rankNow_6 (by decide) ?_
  refine sw_istore_n dX10_rankNow_7 (by decide) rfl ?_
  show SW sc m_X10_rankNow _ _ _ 8 [some (.ref r0), some (.int 0), some (.int 0)] [] g2 P
  exact (k)
theorem b_X10_rankNow_8 {r0 : Nat} {l1 : Int32} {l2 : Int32} {fs3 : List Value} {x3 : Int32} {v4 : Int32} {g4 : ab_H} (hc3 : (h)[r0]? = some (10, fs3)) (hv3 : fs3[6]? = some (.int x3)) (hm4 : MSE m_X10_codeMany d [.int x3] h (some (.int v4)) g4) (kt : v4 ≤ l2 → SW sc m_X10_rankNow (d + 1) rc rs 39 [none, some (.int l1), none] [] g4 P) (kf : ¬ (v4 ≤ l2) → SW sc m_X10_rankNow (d + 1) rc rs 19 [some (.ref r0), some (.int l1), some (.int l2)] [] g4 P) : SW sc m_X10_rankNow (d + 1) rc rs 8 [some (.ref r0), some (.int l1), some (.int l2)] [] h P := by
  refine sw_iload_n dX10_rankNow_8 rfl ?_
  refine sw_aload_n dX10_rankNow_9 rfl ?_
  refine sw_getf dX10_rankNow_10 lf_X10_35 hc3 hv3 ?_
  refine sw_cS (M := m_X10_rankNow) dX10_rankNow_13 ls_X10_215 hm4 rfl rfl (Nat.le_of_ble_eq_true rfl) (fun _ _ => rfl) rfl ?_
  show SW sc m_X10_rankNow _ _ _ 16 [some (.ref r0), some (.int l1), some (.int l2)] [.int v4, .int l2] g4 P
  exact sw_icmp_ge dX10_rankNow_16 (by decide) (fun q => (sw_fg [true, false, true] rfl (kt q))) (fun q => (kf q))
theorem b_X10_rankNow_19 {r0 : Nat} {l1 : Int32} {l2 : Int32} {fs2 : List Value} {x2 : Int32} {fs6 : List Value} {a6 : Nat} {vs8 : List Value} {x8 : Int32} (hc2 : (h)[r0]? = some (10, fs2)) (hv2 : fs2[6]? = some (.int x2)) (hc6 : (h)[r0]? = some (10, fs6)) (hv6 : fs6[22]? = some (.ref a6)) (hc8 : (h)[a6]? = some (100, vs8)) (ho8 : ¬ l2 < 0) (hi8 : vs8[l2.toNatClampNeg]? = some (.int x8)) (k : SW sc m_X10_rankNow d rc rs 8 [some (.ref r0), some (.int ((x2 * l1) + x8)), some (.int (l2 + 1))] [] h P) : SW sc m_X10_rankNow d rc rs 19 [some (.ref r0), some (.int l1), some (.int l2)] [] h P := by
  refine sw_aload_n dX10_rankNow_19 rfl ?_
  refine sw_getf dX10_rankNow_20 lf_X10_35 hc2 hv2 ?_
  refine sw_iload_n dX10_rankNow_23 rfl ?_
  refine sw_imul dX10_rankNow_24 ?_
  refine sw_aload_n dX10_rankNow_25 rfl ?_
  refine sw_getf dX10_rankNow_26 lf_X10_44 hc6 hv6 ?_
  refine sw_iload_n dX10_rankNow_29 rfl ?_
  refine sw_iald dX10_rankNow_30 hc8 ho8 hi8 ?_
  refine sw_iadd dX10_rankNow_31 ?_
  refine sw_istore_n dX10_rankNow_32 (by decide) rfl ?_
  show SW sc m_X10_rankNow _ _ _ 33 [some (.ref r0), some (.int ((x2 * l1) + x8)), some (.int l2)] [] h P
  refine sw_iinc (v := l2 + 1) dX10_rankNow_33 rfl rfl (by decide) rfl ?_
  show SW sc m_X10_rankNow _ _ _ 36 [some (.ref r0), some (.int ((x2 * l1) + x8)), some (.int (l2 + 1))] [] h P
  exact sw_goto dX10_rankNow_36 (by decide) (k)
theorem b_X10_rankNow_39 {l1 : Int32} (hP : P (.inl (some (.int l1))) h) : SW sc m_X10_rankNow d rc rs 39 [none, some (.int l1), none] [] h P := by
  refine sw_iload_n dX10_rankNow_39 rfl ?_
  exact sw_ret (v := (some (.int l1))) dX10_rankNow_40 rt_i hP
theorem b_X10_rank_0 {r0 : Nat} {v3 : Int32} {g3 : ab_H} {fs3 : List Value} (hr3 : (h)[r0]? = some (10, fs3)) (hm3 : MSE m_X10_isTree d [.ref r0] h (some (.int v3)) g3) (kt : ¬ v3 = 0 → SW sc m_X10_rank (d + 1) rc rs 12 [some (.ref r0)] [.ref r0] g3 P) (kf : v3 = 0 → SW sc m_X10_rank (d + 1) rc rs 8 [some (.ref r0)] [.ref r0] g3 P) : SW sc m_X10_rank (d + 1) rc rs 0 [some (.ref r0)] [] h P := by
  refine sw_aload_n dX10_rank_0 rfl ?_
  refine sw_aload_n dX10_rank_1 rfl ?_
  refine sw_cV (M := m_X10_rank) dX10_rank_2 lv_X10_304 hm3 hr3 rfl (by decide) rfl rfl rfl (Nat.le_of_ble_eq_true rfl) (fun _ _ => rfl) rfl ?_
  show SW sc m_X10_rank _ _ _ 5 [some (.ref r0)] [.int v3, .ref r0] g3 P
  exact sw_if_ne dX10_rank_5 (by decide) (fun q => (kt q)) (fun q => (kf q))
theorem b_X10_rank_8 {r0 : Nat} {q0 : Nat} (k : SW sc m_X10_rank d rc rs 13 [some (.ref r0)] [.int 1, .ref q0] h P) : SW sc m_X10_rank d rc rs 8 [some (.ref r0)] [.ref q0] h P := by
  refine sw_iconst (v := 1) dX10_rank_8 (by decide) ?_
  exact sw_goto dX10_rank_9 (by decide) (k)
theorem b_X10_rank_12 {r0 : Nat} {q0 : Nat} (k : SW sc m_X10_rank d rc rs 13 [some (.ref r0)] [.int 0, .ref q0] h P) : SW sc m_X10_rank d rc rs 12 [some (.ref r0)] [.ref q0] h P := by
  refine sw_iconst (v := 0) dX10_rank_12 (by decide) ?_
  exact (k)
theorem b_X10_rank_13 {r0 : Nat} {q0 : Nat} {s1 : Int32} {v2 : Int32} {g2 : ab_H} {fs2 : List Value} (hr2 : (h)[q0]? = some (10, fs2)) (hm2 : MSE m_X10_fails d [.ref q0, .int s1, .int 0] h (some (.int v2)) g2) (kt : v2 = 0 → SW sc m_X10_rank (d + 1) rc rs 24 [some (.ref r0)] [] g2 P) (kf : ¬ (v2 = 0) → SW sc m_X10_rank (d + 1) rc rs 20 [none] [] g2 P) : SW sc m_X10_rank (d + 1) rc rs 13 [some (.ref r0)] [.int s1, .ref q0] h P := by
  refine sw_iconst (v := 0) dX10_rank_13 (by decide) ?_
  refine sw_cV (M := m_X10_rank) dX10_rank_14 lv_X10_286 hm2 hr2 rfl (by decide) rfl rfl rfl (Nat.le_of_ble_eq_true rfl) (fun _ _ => rfl) rfl ?_
  show SW sc m_X10_rank _ _ _ 17 [some (.ref r0)] [.int v2] g2 P
  exact sw_if_eq dX10_rank_17 (by decide) (fun q => (kt q)) (fun q => (sw_fg [true] rfl (kf q)))
theorem b_X10_rank_20  (k : SW sc m_X10_rank d rc rs 28 [none] [.int 0] h P) : SW sc m_X10_rank d rc rs 20 [none] [] h P := by
  refine sw_iconst (v := 0) dX10_rank_20 (by decide) ?_
  exact sw_goto dX10_rank_21 (by decide) (k)
theorem b_X10_rank_24 {r0 : Nat} {v2 : Int32} {g2 : ab_H} {fs2 : List Value} (hr2 : (h)[r0]? = some (10, fs2)) (hm2 : MSE m_X10_rankNow d [.ref r0] h (some (.int v2)) g2) (k : SW sc m_X10_rank (d + 1) rc rs 28 [none] [.int v2] g2 P) : SW sc m_X10_rank (d + 1) rc rs 24 [some (.ref r0)] [] h P := by
  refine sw_aload_n dX10_rank_24 rfl ?_
  refine sw_cV (M := m_X10_rank) dX10_rank_25 lv_X10_310 hm2 hr2 rfl (by decide) rfl rfl rfl (Nat.le_of_ble_eq_true rfl) (fun _ _ => rfl) rfl ?_
  show SW sc m_X10_rank _ _ _ 28 [some (.ref r0)] [.int v2] g2 P
  exact (sw_fg [true] rfl (k))
theorem b_X10_rank_28 {s0 : Int32} (hP : P (.inl (some (.int s0))) h) : SW sc m_X10_rank d rc rs 28 [none] [.int s0] h P := by
  exact sw_ret (v := (some (.int s0))) dX10_rank_28 rt_i hP
theorem b_X10_ranks_0 {l0 : Int32} (k : SW sc m_X10_ranks d rc rs 4 [some (.int l0), some (.int 1), some (.int 0)] [] h P) : SW sc m_X10_ranks d rc rs 0 [some (.int l0), none, none] [] h P := by
  refine sw_iconst (v := 1) dX10_ranks_0 (by decide) ?_
  refine sw_istore_n dX10_ranks_1 (by decide) rfl ?_
  show SW sc m_X10_ranks _ _ _ 2 [some (.int l0), some (.int 1), none] [] h P
  refine sw_iconst (v := 0) dX10_ranks_2 (by decide) ?_
  refine sw_istore_n dX10_ranks_3 (by decide) rfl ?_
  show SW sc m_X10_ranks _ _ _ 4 [some (.int l0), some (.int 1), some (.int 0)] [] h P
  exact (k)
theorem b_X10_ranks_4 {l0 : Int32} {l1 : Int32} {l2 : Int32} {v3 : Int32} {g3 : ab_H} (hm3 : MSE m_X10_codeMany d [.int l0] h (some (.int v3)) g3) (kt : v3 ≤ l2 → SW sc m_X10_ranks (d + 1) rc rs 22 [none, some (.int l1), none] [] g3 P) (kf : ¬ (v3 ≤ l2) → SW sc m_X10_ranks (d + 1) rc rs 12 [some (.int l0), some (.int l1), some (.int l2)] [] g3 P) : SW sc m_X10_ranks (d + 1) rc rs 4 [some (.int l0), some (.int l1), some (.int l2)] [] h P := by
  refine sw_iload_n dX10_ranks_4 rfl ?_
  refine sw_iload_n dX10_ranks_5 rfl ?_
  refine sw_cS (M := m_X10_ranks) dX10_ranks_6 ls_X10_215 hm3 rfl rfl (Nat.le_of_ble_eq_true rfl) (fun _ _ => rfl) rfl ?_
  show SW sc m_X10_ranks _ _ _ 9 [some (.int l0), some (.int l1), some (.int l2)] [.int v3, .int l2] g3 P
  exact sw_icmp_ge dX10_ranks_9 (by decide) (fun q => (sw_fg [true, false, true] rfl (kt q))) (fun q => (kf q))
theorem b_X10_ranks_12 {l0 : Int32} {l1 : Int32} {l2 : Int32} (k : SW sc m_X10_ranks d rc rs 4 [some (.int l0), some (.int (l1 * l0)), some (.int (l2 + 1))] [] h P) : SW sc m_X10_ranks d rc rs 12 [some (.int l0), some (.int l1), some (.int l2)] [] h P := by
  refine sw_iload_n dX10_ranks_12 rfl ?_
  refine sw_iload_n dX10_ranks_13 rfl ?_
  refine sw_imul dX10_ranks_14 ?_
  refine sw_istore_n dX10_ranks_15 (by decide) rfl ?_
  show SW sc m_X10_ranks _ _ _ 16 [some (.int l0), some (.int (l1 * l0)), some (.int l2)] [] h P
  refine sw_iinc (v := l2 + 1) dX10_ranks_16 rfl rfl (by decide) rfl ?_
  show SW sc m_X10_ranks _ _ _ 19 [some (.int l0), some (.int (l1 * l0)), some (.int (l2 + 1))] [] h P
  exact sw_goto dX10_ranks_19 (by decide) (k)
theorem b_X10_ranks_22 {l1 : Int32} (hP : P (.inl (some (.int l1))) h) : SW sc m_X10_ranks d rc rs 22 [none, some (.int l1), none] [] h P := by
  refine sw_iload_n dX10_ranks_22 rfl ?_
  exact sw_ret (v := (some (.int l1))) dX10_ranks_23 rt_i hP
theorem b_X10_decodes_0 {r0 : Nat} {l1 : Int32} {l2 : Int32} {v4 : Int32} {g4 : ab_H} (hm4 : MSE m_X10_codeMany d [.int l2] h (some (.int v4)) g4) (k : SW sc m_X10_decodes (d + 1) rc rs 10 [some (.ref r0), none, some (.int l2), some (.int l1), some (.int (v4 - 1))] [] g4 P) : SW sc m_X10_decodes (d + 1) rc rs 0 [some (.ref r0), some (.int l1), some (.int l2), none, none] [] h P := by
  refine sw_iload_n dX10_decodes_0 rfl ?_
  refine sw_istore_n dX10_decodes_1 (by decide) rfl ?_
  show SW sc m_X10_decodes _ _ _ 2 [some (.ref r0), some (.int l1), some (.int l2), some (.int l1), none] [] h P
  refine sw_iload_n dX10_decodes_2 rfl ?_
  refine sw_cS (M := m_X10_decodes) dX10_decodes_3 ls_X10_215 hm4 rfl rfl (Nat.le_of_ble_eq_true rfl) (fun _ _ => rfl) rfl ?_
  show SW sc m_X10_decodes _ _ _ 6 [some (.ref r0), some (.int l1), some (.int l2), some (.int l1), none] [.int v4] g4 P
  refine sw_iconst (v := 1) dX10_decodes_6 (by decide) ?_
  refine sw_isub dX10_decodes_7 ?_
  refine sw_istore dX10_decodes_8 (by decide) rfl ?_
  show SW sc m_X10_decodes _ _ _ 10 [some (.ref r0), some (.int l1), some (.int l2), some (.int l1), some (.int (v4 - 1))] [] g4 P
  exact (sw_fg [false, true, false, false, false] rfl (k))
theorem b_X10_decodes_10 {r0 : Nat} {l2 : Int32} {l3 : Int32} {l4 : Int32} (kt : l4 < 0 → SW sc m_X10_decodes d rc rs 35 [none, none, none, none, none] [] h P) (kf : ¬ (l4 < 0) → SW sc m_X10_decodes d rc rs 15 [some (.ref r0), none, some (.int l2), some (.int l3), some (.int l4)] [] h P) : SW sc m_X10_decodes d rc rs 10 [some (.ref r0), none, some (.int l2), some (.int l3), some (.int l4)] [] h P := by
  refine sw_iload dX10_decodes_10 rfl ?_
  exact sw_if_lt dX10_decodes_12 (by decide) (fun q => (sw_fg [true, false, true, true, true] rfl (kt q))) (fun q => (kf q))
theorem b_X10_decodes_15 {r0 : Nat} {l2 : Int32} {l3 : Int32} {l4 : Int32} {fs2 : List Value} {a2 : Nat} {vs7 : List Value} (hc2 : (h)[r0]? = some (10, fs2)) (hv2 : fs2[22]? = some (.ref a2)) (hz6 : ¬ l2 = 0) (hc7 : (h)[a2]? = some (100, vs7)) (ho7 : ¬ l4 < 0) (hl7 : l4.toNatClampNeg < vs7.length) (hz10 : ¬ l2 = 0) (k : SW sc m_X10_decodes d rc rs 10 [some (.ref r0), none, some (.int l2), some (.int (l3 / l2)), some (.int (l4 + (-1)))] [] ((h).set a2 (100, vs7.set l4.toNatClampNeg (.int (l3 - l3 / l2 * l2)))) P) : SW sc m_X10_decodes d rc rs 15 [some (.ref r0), none, some (.int l2), some (.int l3), some (.int l4)] [] h P := by
  refine sw_aload_n dX10_decodes_15 rfl ?_
  refine sw_getf dX10_decodes_16 lf_X10_44 hc2 hv2 ?_
  refine sw_iload dX10_decodes_19 rfl ?_
  refine sw_iload_n dX10_decodes_21 rfl ?_
  refine sw_iload_n dX10_decodes_22 rfl ?_
  refine sw_irem dX10_decodes_23 hz6 ?_
  refine sw_iast dX10_decodes_24 hc7 ho7 hl7 ?_
  refine sw_iload_n dX10_decodes_25 rfl ?_
  refine sw_iload_n dX10_decodes_26 rfl ?_
  refine sw_idiv dX10_decodes_27 hz10 ?_
  refine sw_istore_n dX10_decodes_28 (by decide) rfl ?_
  show SW sc m_X10_decodes _ _ _ 29 [some (.ref r0), none, some (.int l2), some (.int (l3 / l2)), some (.int l4)] [] ((h).set a2 (100, vs7.set l4.toNatClampNeg (.int (l3 - l3 / l2 * l2)))) P
  refine sw_iinc (v := l4 + (-1)) dX10_decodes_29 rfl rfl (by decide) rfl ?_
  show SW sc m_X10_decodes _ _ _ 32 [some (.ref r0), none, some (.int l2), some (.int (l3 / l2)), some (.int (l4 + (-1)))] [] ((h).set a2 (100, vs7.set l4.toNatClampNeg (.int (l3 - l3 / l2 * l2)))) P
  exact sw_goto dX10_decodes_32 (by decide) (k)
theorem b_X10_decodes_35  (hP : P (.inl none) h) : SW sc m_X10_decodes d rc rs 35 [none, none, none, none, none] [] h P := by
  exact sw_ret (v := none) dX10_decodes_35 rt_v hP
theorem b_X10_factorial_0 {l0 : Int32} (k : SW sc m_X10_factorial d rc rs 4 [some (.int l0), some (.long 1), none, some (.int 2)] [] h P) : SW sc m_X10_factorial d rc rs 0 [some (.int l0), none, none, none] [] h P := by
  refine sw_lconst (v := 1) dX10_factorial_0 (by decide) ?_
  refine sw_lstore_n dX10_factorial_1 (by decide) rfl ?_
  show SW sc m_X10_factorial _ _ _ 2 [some (.int l0), some (.long 1), none, none] [] h P
  refine sw_iconst (v := 2) dX10_factorial_2 (by decide) ?_
  refine sw_istore_n dX10_factorial_3 (by decide) rfl ?_
  show SW sc m_X10_factorial _ _ _ 4 [some (.int l0), some (.long 1), none, some (.int 2)] [] h P
  exact (k)
theorem b_X10_factorial_4 {l0 : Int32} {j1 : Int64} {l3 : Int32} (kt : l0 < l3 → SW sc m_X10_factorial d rc rs 20 [none, some (.long j1), none, none] [] h P) (kf : ¬ (l0 < l3) → SW sc m_X10_factorial d rc rs 9 [some (.int l0), some (.long j1), none, some (.int l3)] [] h P) : SW sc m_X10_factorial d rc rs 4 [some (.int l0), some (.long j1), none, some (.int l3)] [] h P := by
  refine sw_iload_n dX10_factorial_4 rfl ?_
  refine sw_iload_n dX10_factorial_5 rfl ?_
  exact sw_icmp_gt dX10_factorial_6 (by decide) (fun q => (sw_fg [true, false, false, true] rfl (kt q))) (fun q => (kf q))
theorem b_X10_factorial_9 {l0 : Int32} {j1 : Int64} {l3 : Int32} (k : SW sc m_X10_factorial d rc rs 4 [some (.int l0), some (.long (j1 * l3.toInt64)), none, some (.int (l3 + 1))] [] h P) : SW sc m_X10_factorial d rc rs 9 [some (.int l0), some (.long j1), none, some (.int l3)] [] h P := by
  refine sw_lload_n dX10_factorial_9 rfl ?_
  refine sw_iload_n dX10_factorial_10 rfl ?_
  refine sw_i2l dX10_factorial_11 ?_
  refine sw_lmul dX10_factorial_12 ?_
  refine sw_lstore_n dX10_factorial_13 (by decide) rfl ?_
  show SW sc m_X10_factorial _ _ _ 14 [some (.int l0), some (.long (j1 * l3.toInt64)), none, some (.int l3)] [] h P
  refine sw_iinc (v := l3 + 1) dX10_factorial_14 rfl rfl (by decide) rfl ?_
  show SW sc m_X10_factorial _ _ _ 17 [some (.int l0), some (.long (j1 * l3.toInt64)), none, some (.int (l3 + 1))] [] h P
  exact sw_goto dX10_factorial_17 (by decide) (k)
theorem b_X10_factorial_20 {j1 : Int64} (hP : P (.inl (some (.long j1))) h) : SW sc m_X10_factorial d rc rs 20 [none, some (.long j1), none, none] [] h P := by
  refine sw_lload_n dX10_factorial_20 rfl ?_
  exact sw_ret (v := (some (.long j1))) dX10_factorial_21 rt_l hP
theorem b_X10_sameDegrees_0 {r0 : Nat} {v3 : Int32} {g3 : ab_H} {fs3 : List Value} (hr3 : (h)[r0]? = some (10, fs3)) (hm3 : MSE m_X10_isTree d [.ref r0] h (some (.int v3)) g3) (kt : ¬ v3 = 0 → SW sc m_X10_sameDegrees (d + 1) rc rs 12 [some (.ref r0), none, none, none] [.ref r0] g3 P) (kf : v3 = 0 → SW sc m_X10_sameDegrees (d + 1) rc rs 8 [some (.ref r0), none, none, none] [.ref r0] g3 P) : SW sc m_X10_sameDegrees (d + 1) rc rs 0 [some (.ref r0), none, none, none] [] h P := by
  refine sw_aload_n dX10_sameDegrees_0 rfl ?_
  refine sw_aload_n dX10_sameDegrees_1 rfl ?_
  refine sw_cV (M := m_X10_sameDegrees) dX10_sameDegrees_2 lv_X10_304 hm3 hr3 rfl (by decide) rfl rfl rfl (Nat.le_of_ble_eq_true rfl) (fun _ _ => rfl) rfl ?_
  show SW sc m_X10_sameDegrees _ _ _ 5 [some (.ref r0), none, none, none] [.int v3, .ref r0] g3 P
  exact sw_if_ne dX10_sameDegrees_5 (by decide) (fun q => (kt q)) (fun q => (kf q))
theorem b_X10_sameDegrees_8 {r0 : Nat} {q0 : Nat} (k : SW sc m_X10_sameDegrees d rc rs 13 [some (.ref r0), none, none, none] [.int 1, .ref q0] h P) : SW sc m_X10_sameDegrees d rc rs 8 [some (.ref r0), none, none, none] [.ref q0] h P := by
  refine sw_iconst (v := 1) dX10_sameDegrees_8 (by decide) ?_
  exact sw_goto dX10_sameDegrees_9 (by decide) (k)
theorem b_X10_sameDegrees_12 {r0 : Nat} {q0 : Nat} (k : SW sc m_X10_sameDegrees d rc rs 13 [some (.ref r0), none, none, none] [.int 0, .ref q0] h P) : SW sc m_X10_sameDegrees d rc rs 12 [some (.ref r0), none, none, none] [.ref q0] h P := by
  refine sw_iconst (v := 0) dX10_sameDegrees_12 (by decide) ?_
  exact (k)
theorem b_X10_sameDegrees_13 {r0 : Nat} {q0 : Nat} {s1 : Int32} {v2 : Int32} {g2 : ab_H} {fs2 : List Value} (hr2 : (h)[q0]? = some (10, fs2)) (hm2 : MSE m_X10_fails d [.ref q0, .int s1, .int 0] h (some (.int v2)) g2) (kt : v2 = 0 → SW sc m_X10_sameDegrees (d + 1) rc rs 22 [some (.ref r0), none, none, none] [] g2 P) (kf : ¬ (v2 = 0) → SW sc m_X10_sameDegrees (d + 1) rc rs 20 [none, none, none, none] [] g2 P) : SW sc m_X10_sameDegrees (d + 1) rc rs 13 [some (.ref r0), none, none, none] [.int s1, .ref q0] h P := by
  refine sw_iconst (v := 0) dX10_sameDegrees_13 (by decide) ?_
  refine sw_cV (M := m_X10_sameDegrees) dX10_sameDegrees_14 lv_X10_286 hm2 hr2 rfl (by decide) rfl rfl rfl (Nat.le_of_ble_eq_true rfl) (fun _ _ => rfl) rfl ?_
  show SW sc m_X10_sameDegrees _ _ _ 17 [some (.ref r0), none, none, none] [.int v2] g2 P
  exact sw_if_eq dX10_sameDegrees_17 (by decide) (fun q => (kt q)) (fun q => (sw_fg [true, false, false, false] rfl (kf q)))
theorem b_X10_sameDegrees_20  (hP : P (.inl (some (.int 0))) h) : SW sc m_X10_sameDegrees d rc rs 20 [none, none, none, none] [] h P := by
  refine sw_iconst (v := 0) dX10_sameDegrees_20 (by decide) ?_
  exact sw_ret (v := (some (.int 0))) dX10_sameDegrees_21 rt_i hP
theorem b_X10_sameDegrees_22 {r0 : Nat} {fs2 : List Value} {x2 : Int32} (hc2 : (h)[r0]? = some (10, fs2)) (hv2 : fs2[6]? = some (.int x2)) (kt : ¬ x2 = 1 → SW sc m_X10_sameDegrees d rc rs 32 [some (.ref r0), none, none, none] [] h P) (kf : x2 = 1 → SW sc m_X10_sameDegrees d rc rs 30 [none, none, none, none] [] h P) : SW sc m_X10_sameDegrees d rc rs 22 [some (.ref r0), none, none, none] [] h P := by
  refine sw_aload_n dX10_sameDegrees_22 rfl ?_
  refine sw_getf dX10_sameDegrees_23 lf_X10_35 hc2 hv2 ?_
  refine sw_iconst (v := 1) dX10_sameDegrees_26 (by decide) ?_
  exact sw_icmp_ne dX10_sameDegrees_27 (by decide) (fun q => (kt q)) (fun q => (sw_fg [true, false, false, false] rfl (kf q)))
theorem b_X10_sameDegrees_30  (hP : P (.inl (some (.int 1))) h) : SW sc m_X10_sameDegrees d rc rs 30 [none, none, none, none] [] h P := by
  refine sw_iconst (v := 1) dX10_sameDegrees_30 (by decide) ?_
  exact sw_ret (v := (some (.int 1))) dX10_sameDegrees_31 rt_i hP
theorem b_X10_sameDegrees_32 {r0 : Nat} {fs2 : List Value} {x2 : Int32} {v5 : Int64} {g5 : ab_H} (hc2 : (h)[r0]? = some (10, fs2)) (hv2 : fs2[6]? = some (.int x2)) (hm5 : MSE m_X10_factorial d [.int (x2 - 2)] h (some (.long v5)) g5) (k : SW sc m_X10_sameDegrees (d + 1) rc rs 44 [some (.ref r0), some (.long v5), none, some (.int 0)] [] g5 P) : SW sc m_X10_sameDegrees (d + 1) rc rs 32 [some (.ref r0), none, none, none] [] h P := by
  refine sw_aload_n dX10_sameDegrees_32 rfl ?_
  refine sw_getf dX10_sameDegrees_33 lf_X10_35 hc2 hv2 ?_
  refine sw_iconst (v := 2) dX10_sameDegrees_36 (by decide) ?_
  refine sw_isub dX10_sameDegrees_37 ?_
  refine sw_cS (M := m_X10_sameDegrees) dX10_sameDegrees_38 ls_X10_313 hm5 rfl rfl (Nat.le_of_ble_eq_true rfl) (fun _ _ => rfl) rfl ?_
  show SW sc m_X10_sameDegrees _ _ _ 41 [some (.ref r0), none, none, none] [.long v5] g5 P
  refine sw_lstore_n dX10_sameDegrees_41 (by decide) rfl ?_
  show SW sc m_X10_sameDegrees _ _ _ 42 [some (.ref r0), some (.long v5), none, none] [] g5 P
  refine sw_iconst (v := 0) dX10_sameDegrees_42 (by decide) ?_
  refine sw_istore_n dX10_sameDegrees_43 (by decide) rfl ?_
  show SW sc m_X10_sameDegrees _ _ _ 44 [some (.ref r0), some (.long v5), none, some (.int 0)] [] g5 P
  exact (k)
theorem b_X10_sameDegrees_44 {r0 : Nat} {j1 : Int64} {l3 : Int32} {fs3 : List Value} {x3 : Int32} (hc3 : (h)[r0]? = some (10, fs3)) (hv3 : fs3[6]? = some (.int x3)) (kt : x3 ≤ l3 → SW sc m_X10_sameDegrees d rc rs 75 [none, some (.long j1), none, none] [] h P) (kf : ¬ (x3 ≤ l3) → SW sc m_X10_sameDegrees d rc rs 52 [some (.ref r0), some (.long j1), none, some (.int l3)] [] h P) : SW sc m_X10_sameDegrees d rc rs 44 [some (.ref r0), some (.long j1), none, some (.int l3)] [] h P := by
  refine sw_iload_n dX10_sameDegrees_44 rfl ?_
  refine sw_aload_n dX10_sameDegrees_45 rfl ?_
  refine sw_getf dX10_sameDegrees_46 lf_X10_35 hc3 hv3 ?_
  exact sw_icmp_ge dX10_sameDegrees_49 (by decide) (fun q => (sw_fg [true, false, false, true] rfl (kt q))) (fun q => (kf q))
theorem b_X10_sameDegrees_52 {r0 : Nat} {j1 : Int64} {l3 : Int32} {fs3 : List Value} {a3 : Nat} {vs5 : List Value} {x5 : Int32} {v6 : Int32} {g6 : ab_H} {v9 : Int64} {g9 : ab_H} (hc3 : (h)[r0]? = some (10, fs3)) (hv3 : fs3[1]? = some (.ref a3)) (hc5 : (h)[a3]? = some (100, vs5)) (ho5 : ¬ l3 < 0) (hi5 : vs5[l3.toNatClampNeg]? = some (.int x5)) (hm6 : MSE m_X10_ones d [.int x5] h (some (.int v6)) g6) (hm9 : MSE m_X10_factorial d [.int (v6 - 1)] g6 (some (.long v9)) g9) (hz10 : ¬ v9 = 0) (k : SW sc m_X10_sameDegrees (d + 1) rc rs 44 [some (.ref r0), some (.long (j1 / v9)), none, some (.int (l3 + 1))] [] g9 P) : SW sc m_X10_sameDegrees (d + 1) rc rs 52 [some (.ref r0), some (.long j1), none, some (.int l3)] [] h P := by
  refine sw_lload_n dX10_sameDegrees_52 rfl ?_
  refine sw_aload_n dX10_sameDegrees_53 rfl ?_
  refine sw_getf dX10_sameDegrees_54 lf_X10_19 hc3 hv3 ?_
  refine sw_iload_n dX10_sameDegrees_57 rfl ?_
  refine sw_iald dX10_sameDegrees_58 hc5 ho5 hi5 ?_
  refine sw_cS (M := m_X10_sameDegrees) dX10_sameDegrees_59 ls_X10_111 hm6 rfl rfl (Nat.le_of_ble_eq_true rfl) (fun _ _ => rfl) rfl ?_
  show SW sc m_X10_sameDegrees _ _ _ 62 [some (.ref r0), some (.long j1), none, some (.int l3)] [.int v6, .long j1] g6 P
  refine sw_iconst (v := 1) dX10_sameDegrees_62 (by decide) ?_
  refine sw_isub dX10_sameDegrees_63 ?_
  refine sw_cS (M := m_X10_sameDegrees) dX10_sameDegrees_64 ls_X10_313 hm9 rfl rfl (Nat.le_of_ble_eq_true rfl) (fun _ _ => rfl) rfl ?_
  show SW sc m_X10_sameDegrees _ _ _ 67 [some (.ref r0), some (.long j1), none, some (.int l3)] [.long v9, .long j1] g9 P
  refine sw_ldiv dX10_sameDegrees_67 hz10 ?_
  refine sw_lstore_n dX10_sameDegrees_68 (by decide) rfl ?_
  show SW sc m_X10_sameDegrees _ _ _ 69 [some (.ref r0), some (.long (j1 / v9)), none, some (.int l3)] [] g9 P
  refine sw_iinc (v := l3 + 1) dX10_sameDegrees_69 rfl rfl (by decide) rfl ?_
  show SW sc m_X10_sameDegrees _ _ _ 72 [some (.ref r0), some (.long (j1 / v9)), none, some (.int (l3 + 1))] [] g9 P
  exact sw_goto dX10_sameDegrees_72 (by decide) (k)
end
