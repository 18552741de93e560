/-! the six texts: length, charAt -/
section
variable {d : Nat} {h : ab_H} {t : Nat}
theorem tx_ar {k : Nat} {i : Int32} (hk : 10 ≤ k ∧ k < 16) : (∀ (σ : Nat → Nat) (τ : Nat → Value) (v : Value), v ∈ [Value.retAddr k, .int i] → (∃ k, v = .retAddr k) ∨ (ab_v σ τ v).category = 1) ∧ (∀ j, Value.retAddr j ∈ [Value.retAddr k, .int i] → j < 6 ∨ (10 ≤ j ∧ j < 16) ∨ j = 50) := by
  refine ⟨fun σ τ v hv => ?_, fun j hj => ?_⟩
  · rcases List.mem_cons.mp hv with rfl | hv
    · exact Or.inl ⟨_, rfl⟩
    · rw [List.mem_singleton.mp hv]; exact Or.inr rfl
  · rcases List.mem_cons.mp hj with e | hj
    · cases e; exact Or.inr (Or.inl hk)
    · cases List.mem_singleton.mp hj
theorem s_coder (ht : t < 6) : MSE m_J0_coder_7d493 d [.retAddr t] h (some (.int 0)) h := by
  refine MS.of (by decide +kernel) (Nat.le_of_ble_eq_true rfl) cw_J0_coder_7d493 ?_
  show SW none m_J0_coder_7d493 d 0 0 0 [some (.retAddr t)] [] h (rI 0 h)
  refine sw_compact dJ0_coder_7d493_0 gs_J0_38 ?_
  refine sw_if_eq (tgt := 13) dJ0_coder_7d493_3 (by decide) (fun q => absurd q (by decide)) (fun _ => ?_)
  refine sw_aload_nt dJ0_coder_7d493_6 rfl (Or.inl ht) ?_
  refine sw_coder dJ0_coder_7d493_7 gs_J0_15 ht ?_
  refine sw_goto (tgt := 14) dJ0_coder_7d493_10 (by decide) ?_
  exact sw_ret (v := some (.int 0)) dJ0_coder_7d493_14 (rt_n (by decide)) ⟨rfl, rfl⟩
theorem s_isLatin1 (ht : t < 6) : MSE m_J0_isLatin1_aae02 d [.retAddr t] h (some (.int 1)) h := by
  refine MS.of (by decide +kernel) (Nat.le_of_ble_eq_true rfl) cw_J0_isLatin1_aae02 ?_
  show SW none m_J0_isLatin1_aae02 d 0 0 0 [some (.retAddr t)] [] h (rI 1 h)
  refine sw_compact dJ0_isLatin1_aae02_0 gs_J0_38 ?_
  refine sw_if_eq (tgt := 17) dJ0_isLatin1_aae02_3 (by decide) (fun q => absurd q (by decide)) (fun _ => ?_)
  refine sw_aload_nt dJ0_isLatin1_aae02_6 rfl (Or.inl ht) ?_
  refine sw_coder dJ0_isLatin1_aae02_7 gs_J0_15 ht ?_
  refine sw_if_ne (tgt := 17) dJ0_isLatin1_aae02_10 (by decide) (fun q => absurd rfl q) (fun _ => ?_)
  refine sw_iconst (v := 1) dJ0_isLatin1_aae02_13 (by decide) ?_
  refine sw_goto (tgt := 18) dJ0_isLatin1_aae02_14 (by decide) ?_
  exact sw_ret (v := some (.int 1)) dJ0_isLatin1_aae02_18 (rt_n (by decide)) ⟨rfl, rfl⟩
def tl (t : Nat) : Nat := ab_len.getD t 0
theorem tl_shr (ht : t < 6) : (Int32.ofNat (ab_len.getD t 0)) >>> ((0 : Int32) &&& 31) = nI (tl t) := by
  rcases (show t = 0 ∨ t = 1 ∨ t = 2 ∨ t = 3 ∨ t = 4 ∨ t = 5 by omega) with rfl | rfl | rfl | rfl | rfl | rfl <;> decide
theorem s_strlen (ht : t < 6) : MSE m_J0_length_8abf5 (d + 1) [.retAddr t] h (some (.int (nI (tl t)))) h := by
  refine MS.of (by decide +kernel) (Nat.le_of_ble_eq_true rfl) cw_J0_length_8abf5 ?_
  show SW none m_J0_length_8abf5 (d + 1) 0 0 0 [some (.retAddr t)] [] h (rI (nI (tl t)) h)
  refine sw_aload_nt dJ0_length_8abf5_0 rfl (Or.inl ht) ?_
  refine sw_value dJ0_length_8abf5_1 gs_J0_9 ht ?_
  refine sw_tlen dJ0_length_8abf5_4 ht ?_
  refine sw_aload_nt dJ0_length_8abf5_5 rfl (Or.inl ht) ?_
  refine sw_cT (M := m_J0_length_8abf5) dJ0_length_8abf5_6 lv_J0_335 rfl ht (s_coder ht) rfl rfl (Nat.le_of_ble_eq_true rfl) (fun _ _ => rfl) (fun σ τ v hv => by simp at hv) ?_
  show SW none m_J0_length_8abf5 (d + 1) 0 0 9 [some (.retAddr t)] [.int 0, .int (Int32.ofNat (ab_len.getD t 0))] h (rI (nI (tl t)) h)
  refine sw_ishr dJ0_length_8abf5_9 ?_
  rw [tl_shr ht]
  exact sw_ret (v := some (.int (nI (tl t)))) dJ0_length_8abf5_10 rt_i ⟨rfl, rfl⟩
theorem s_preIndex {i n : Int32} (h0 : ¬ i < 0) (h1 : i < n) : MSE m_J3_checkIndex_8e157 d [.int i, .int n, .retAddr 50] h (some (.int i)) h := by
  refine MS.of (by decide +kernel) (Nat.le_of_ble_eq_true rfl) cw_J3_checkIndex_8e157 ?_
  show SW none m_J3_checkIndex_8e157 d 0 0 0 [some (.int i), some (.int n), some (.retAddr 50)] [] h (rI i h)
  refine sw_iload_n dJ3_checkIndex_8e157_0 rfl ?_
  refine sw_if_lt (tgt := 9) dJ3_checkIndex_8e157_1 (by decide) (fun q => absurd q h0) (fun _ => ?_)
  refine sw_iload_n dJ3_checkIndex_8e157_4 rfl ?_
  refine sw_iload_n dJ3_checkIndex_8e157_5 rfl ?_
  refine sw_icmp_lt (tgt := 16) dJ3_checkIndex_8e157_6 (by decide) (fun _ => ?_) (fun q => absurd h1 q)
  refine sw_iload_n dJ3_checkIndex_8e157_16 rfl ?_
  exact sw_ret (v := some (.int i)) dJ3_checkIndex_8e157_17 rt_i ⟨rfl, rfl⟩
theorem s_checkIndex {i n : Int32} (h0 : ¬ i < 0) (h1 : i < n) : MSE m_J0_checkIndex_df160 (d + 1) [.int i, .int n] h none h := by
  refine MS.of (by decide +kernel) (Nat.le_of_ble_eq_true rfl) cw_J0_checkIndex_df160 ?_
  show SW none m_J0_checkIndex_df160 (d + 1) 0 0 0 [some (.int i), some (.int n)] [] h (rV h)
  refine sw_iload_n dJ0_checkIndex_df160_0 rfl ?_
  refine sw_iload_n dJ0_checkIndex_df160_1 rfl ?_
  refine sw_sioobe dJ0_checkIndex_df160_2 gs_J0_1053 ?_
  refine sw_callS (M := m_J0_checkIndex_df160) (mc := 0) (ms := 0) dJ0_checkIndex_df160_5 ls_J0_1059 (s_preIndex (d := d) h0 h1) (Nat.le_refl _) rfl rfl (Nat.le_of_ble_eq_true rfl) (fun _ _ => rfl) (fun σ τ v hv => ?_) (fun k hk => ?_) (fun w h1 e => ?_) (fun E h1 e => by cases e.1)
  · rcases List.mem_cons.mp hv with rfl | hv
    · exact Or.inr rfl
    · rcases List.mem_cons.mp hv with rfl | hv
      · exact Or.inr rfl
      · rw [List.mem_singleton.mp hv]; exact Or.inl ⟨_, rfl⟩
  · rcases List.mem_cons.mp hk with e | hk
    · cases e
    · rcases List.mem_cons.mp hk with e | hk
      · cases e
      · cases List.mem_singleton.mp hk; exact Or.inr (Or.inr rfl)
  · obtain ⟨e1, rfl⟩ := e
    cases e1
    show SW none m_J0_checkIndex_df160 (d + 1) 0 0 8 [some (.int i), some (.int n)] [.int i] _ (rV _)
    refine sw_pop dJ0_checkIndex_df160_8 (fun _ _ => rfl) ?_
    exact sw_ret (v := none) dJ0_checkIndex_df160_9 rt_v ⟨rfl, rfl⟩
/-- the sign of a text at a place -/
def tc (t i : Nat) : Int32 := (ab_byt.getD t []).getD i 0
theorem tc_ok : ∀ t, t < 6 → ∀ i, i < tl t → ((tc t i &&& 255).toUInt32 % 65536).toInt32 = tc t i ∧ narrow .char (.int (tc t i)) = .int (tc t i) := by decide
theorem s_latCharAt (ht : t < 6) {i : Nat} (hi : i < tl t) : MSE m_J1_charAt_3b067 (d + 2) [.retAddr (10 + t), .int (nI i)] h (some (.int (tc t i))) h := by
  have hi9 : tl t < 100 := by
    rcases (show t = 0 ∨ t = 1 ∨ t = 2 ∨ t = 3 ∨ t = 4 ∨ t = 5 by omega) with rfl | rfl | rfl | rfl | rfl | rfl <;> decide
  obtain ⟨k1, k2⟩ := tc_ok t ht i hi
  refine MS.of (by decide +kernel) (Nat.le_of_ble_eq_true rfl) cw_J1_charAt_3b067 ?_
  show SW none m_J1_charAt_3b067 (d + 2) 0 0 0 [some (.retAddr (10 + t)), some (.int (nI i))] [] h (rI (tc t i) h)
  refine sw_iload_n dJ1_charAt_3b067_0 rfl ?_
  refine sw_aload_nt dJ1_charAt_3b067_1 rfl (Or.inr (Or.inl (by omega))) ?_
  refine sw_tlen dJ1_charAt_3b067_2 ht ?_
  refine sw_cS (M := m_J1_charAt_3b067) dJ1_charAt_3b067_3 ls_J1_9 (s_checkIndex (d := d) (nI_pos (by omega)) (nI_lt (b := tl t) hi (by omega))) rfl rfl (Nat.le_of_ble_eq_true rfl) (fun _ _ => rfl) rfl ?_
  show SW none m_J1_charAt_3b067 (d + 2) 0 0 6 [some (.retAddr (10 + t)), some (.int (nI i))] [] h (rI (tc t i) h)
  refine sw_aload_nt dJ1_charAt_3b067_6 rfl (Or.inr (Or.inl (by omega))) ?_
  refine sw_iload_n dJ1_charAt_3b067_7 rfl ?_
  refine sw_tbald (x := tc t i) dJ1_charAt_3b067_8 ht (nI_pos (by omega)) (by rw [cl_nI (by omega)]; exact hi) (by rw [cl_nI (by omega)]; rfl) ?_
  refine sw_sipush (v := 255) dJ1_charAt_3b067_9 (by decide) ?_
  refine sw_iand dJ1_charAt_3b067_12 ?_
  refine sw_i2c dJ1_charAt_3b067_13 ?_
  rw [k1]
  exact sw_ret (v := some (.int (tc t i))) dJ1_charAt_3b067_14 (rt_n k2) ⟨rfl, rfl⟩
theorem s_charAt (ht : t < 6) {i : Nat} (hi : i < tl t) : MSE m_J0_charAt_5068e (d + 3) [.retAddr t, .int (nI i)] h (some (.int (tc t i))) h := by
  obtain ⟨k1, k2⟩ := tc_ok t ht i hi
  refine MS.of (by decide +kernel) (Nat.le_of_ble_eq_true rfl) cw_J0_charAt_5068e ?_
  show SW none m_J0_charAt_5068e (d + 3) 0 0 0 [some (.retAddr t), some (.int (nI i))] [] h (rI (tc t i) h)
  refine sw_aload_nt dJ0_charAt_5068e_0 rfl (Or.inl ht) ?_
  refine sw_cT (M := m_J0_charAt_5068e) dJ0_charAt_5068e_1 lv_J0_492 rfl ht (s_isLatin1 ht) rfl rfl (Nat.le_of_ble_eq_true rfl) (fun _ _ => rfl) (fun σ τ v hv => by simp at hv) ?_
  show SW none m_J0_charAt_5068e (d + 3) 0 0 4 [some (.retAddr t), some (.int (nI i))] [.int 1] h (rI (tc t i) h)
  refine sw_if_eq (tgt := 16) dJ0_charAt_5068e_4 (by decide) (fun q => absurd q (by decide)) (fun _ => ?_)
  refine sw_aload_nt dJ0_charAt_5068e_7 rfl (Or.inl ht) ?_
  refine sw_value dJ0_charAt_5068e_8 gs_J0_9 ht ?_
  refine sw_iload_n dJ0_charAt_5068e_11 rfl ?_
  obtain ⟨a1, a2⟩ := tx_ar (k := 10 + t) (i := nI i) (by omega)
  refine sw_callS (M := m_J0_charAt_5068e) (mc := 0) (ms := 0) dJ0_charAt_5068e_12 ls_J0_495 (s_latCharAt (d := d) ht hi) (Nat.le_refl _) rfl rfl (Nat.le_of_ble_eq_true rfl) (fun _ _ => rfl) a1 a2 (fun w h1 e => ?_) (fun E h1 e => by cases e.1)
  obtain ⟨e1, rfl⟩ := e
  cases e1
  exact sw_ret (v := some (.int (tc t i))) dJ0_charAt_5068e_15 (rt_n k2) ⟨rfl, rfl⟩
end
