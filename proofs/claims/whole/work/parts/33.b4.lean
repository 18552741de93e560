section
variable {sc : Option (List Int32)} {d rc rs : Nat} {h : ab_H} {P : ab_O → ab_H → Prop}
theorem b_X9_quotient_8 {l0 : Int32} {l1 : Int32} (hz3 : ¬ l1 = 0) (k : SW sc m_X9_quotient d rc rs 11 [none, none] [.int (l0 / l1)] h P) : SW sc m_X9_quotient d rc rs 8 [some (.int l0), some (.int l1)] [] h P := by
  refine sw_iload_n dX9_quotient_8 rfl ?_
  refine sw_iload_n dX9_quotient_9 rfl ?_
  refine sw_idiv dX9_quotient_10 hz3 ?_
  exact (sw_fg [true, true] rfl (k))
theorem b_X9_quotient_11 {s0 : Int32} (hP : P (.inl (some (.int s0))) h) : SW sc m_X9_quotient d rc rs 11 [none, none] [.int s0] h P := by
  exact sw_ret (v := (some (.int s0))) dX9_quotient_11 rt_i hP
theorem b_X9_codeLength_0 {l0 : Int32} {v5 : Int32} {g5 : ab_H} (hm5 : MSE m_J9_max_7cf53 d [.int (l0 - 2), .int 0] h (some (.int v5)) g5) (hP : P (.inl (some (.int v5))) g5) : SW sc m_X9_codeLength (d + 1) rc rs 0 [some (.int l0)] [] h P := by
  refine sw_iload_n dX9_codeLength_0 rfl ?_
  refine sw_iconst (v := 2) dX9_codeLength_1 (by decide) ?_
  refine sw_isub dX9_codeLength_2 ?_
  refine sw_iconst (v := 0) dX9_codeLength_3 (by decide) ?_
  refine sw_cS (M := m_X9_codeLength) dX9_codeLength_4 ls_X9_392 hm5 rfl rfl (Nat.le_of_ble_eq_true rfl) (fun _ _ => rfl) rfl ?_
  show SW sc m_X9_codeLength _ _ _ 7 [some (.int l0)] [.int v5] g5 P
  exact sw_ret (v := (some (.int v5))) dX9_codeLength_7 rt_i hP
theorem b_X9_treesWith_0 {l0 : Int32} (k : SW sc m_X9_treesWith d rc rs 4 [some (.int l0), some (.int 1), some (.int 0)] [] h P) : SW sc m_X9_treesWith d rc rs 0 [some (.int l0), none, none] [] h P := by
  refine sw_iconst (v := 1) dX9_treesWith_0 (by decide) ?_
  refine sw_istore_n dX9_treesWith_1 (by decide) rfl ?_
  show SW sc m_X9_treesWith _ _ _ 2 [some (.int l0), some (.int 1), none] [] h P
  refine sw_iconst (v := 0) dX9_treesWith_2 (by decide) ?_
  refine sw_istore_n dX9_treesWith_3 (by decide) rfl ?_
  show SW sc m_X9_treesWith _ _ _ 4 [some (.int l0), some (.int 1), some (.int 0)] [] h P
  exact (k)
theorem b_X9_treesWith_4 {l0 : Int32} {l1 : Int32} {l2 : Int32} {v3 : Int32} {g3 : ab_H} (hm3 : MSE m_X9_codeLength d [.int l0] h (some (.int v3)) g3) (kt : v3 ≤ l2 → SW sc m_X9_treesWith (d + 1) rc rs 22 [none, some (.int l1), none] [] g3 P) (kf : ¬ (v3 ≤ l2) → SW sc m_X9_treesWith (d + 1) rc rs 12 [some (.int l0), some (.int l1), some (.int l2)] [] g3 P) : SW sc m_X9_treesWith (d + 1) rc rs 4 [some (.int l0), some (.int l1), some (.int l2)] [] h P := by
  refine sw_iload_n dX9_treesWith_4 rfl ?_
  refine sw_iload_n dX9_treesWith_5 rfl ?_
  refine sw_cS (M := m_X9_treesWith) dX9_treesWith_6 ls_X9_227 hm3 rfl rfl (Nat.le_of_ble_eq_true rfl) (fun _ _ => rfl) rfl ?_
  show SW sc m_X9_treesWith _ _ _ 9 [some (.int l0), some (.int l1), some (.int l2)] [.int v3, .int l2] g3 P
  exact sw_icmp_ge dX9_treesWith_9 (by decide) (fun q => (sw_fg [true, false, true] rfl (kt q))) (fun q => (kf q))
theorem b_X9_treesWith_12 {l0 : Int32} {l1 : Int32} {l2 : Int32} (k : SW sc m_X9_treesWith d rc rs 4 [some (.int l0), some (.int (l1 * l0)), some (.int (l2 + 1))] [] h P) : SW sc m_X9_treesWith d rc rs 12 [some (.int l0), some (.int l1), some (.int l2)] [] h P := by
  refine sw_iload_n dX9_treesWith_12 rfl ?_
  refine sw_iload_n dX9_treesWith_13 rfl ?_
  refine sw_imul dX9_treesWith_14 ?_
  refine sw_istore_n dX9_treesWith_15 (by decide) rfl ?_
  show SW sc m_X9_treesWith _ _ _ 16 [some (.int l0), some (.int (l1 * l0)), some (.int l2)] [] h P
  refine sw_iinc (v := l2 + 1) dX9_treesWith_16 rfl rfl (by decide) rfl ?_
  show SW sc m_X9_treesWith _ _ _ 19 [some (.int l0), some (.int (l1 * l0)), some (.int (l2 + 1))] [] h P
  exact sw_goto dX9_treesWith_19 (by decide) (k)
theorem b_X9_treesWith_22 {l1 : Int32} (hP : P (.inl (some (.int l1))) h) : SW sc m_X9_treesWith d rc rs 22 [none, some (.int l1), none] [] h P := by
  refine sw_iload_n dX9_treesWith_22 rfl ?_
  exact sw_ret (v := (some (.int l1))) dX9_treesWith_23 rt_i hP
end
