section
variable {xs : List Int32} {d rc rs : Nat} {P : ab_O → ab_H → Prop} {c : Nat → List Value} {i : Nat}
def PL : ab_O → ab_H → Prop := fun o _ => o = .inl (some (.int 1))
theorem ln_lt {len : Nat} (hl : len < 5000) (hi : i < 5000) : Int32.ofNat len - 6 < nI i ↔ len < i + 6 := by
  by_cases h : len < 6
  · refine ⟨fun _ => by omega, fun _ => ?_⟩
    have h0 : Int32.ofNat len - 6 < 0 := by
      rcases (show len = 0 ∨ len = 1 ∨ len = 2 ∨ len = 3 ∨ len = 4 ∨ len = 5 by omega) with e | e | e | e | e | e <;> subst e <;> decide
    exact Int32.lt_of_lt_of_le h0 (nI_pos' (by omega))
  · obtain ⟨k, rfl⟩ : ∃ k, len = k + 6 := ⟨len - 6, by omega⟩
    have e : Int32.ofNat (k + 6) - 6 = nI k := by
      show nI (k + 6) - nI 6 = nI k
      rw [← nI_add, Int32.add_sub_cancel]
    rw [e, nI_ltI (by omega) (by omega)]
    omega
/-- one call of the script, whichever it is -/
theorem lw_call (I : INV c) (g82 : ∃ a, c 82 = [.long a]) (g83 : ∃ a, c 83 = [.double a]) (X : ∀ j, j < 6 → ∃ x, xs[i + j]? = some x) (hi : i < 5000) (x0 : Int32) (K : ∀ c', INV c' → (∃ a, c' 82 = [.long a]) → (∃ a, c' 83 = [.double a]) → SW (some xs) m_L_law (d + 22) rc rs 2148 (LL i) [] (hp c') P) : SW (some xs) m_L_law (d + 22) (rc + 1) (rs + 6) 45 (LL i) [.int x0] (hp c) P := by
  by_cases ho : x0.toInt < 0 ∨ 34 < x0.toInt
  · exact sw_tableOut (tgt := 2148) dL_law_45 ho (by decide) (sw_room (K c I g82 g83))
  · obtain ⟨k, hk, hx⟩ := ab_swIn (n := 35) (by decide) ho
    by_cases h0 : k = 0
    · subst h0
      exact sw_tableIn (off := 155) (tgt := 200) dL_law_45 (by rw [hx]; decide) (by rw [hx]; decide) (by rw [hx]; decide) (by decide) (lc_0 I g82 g83 X hi K)
    by_cases h1 : k = 1
    · subst h1
      exact sw_tableIn (off := 228) (tgt := 273) dL_law_45 (by rw [hx]; decide) (by rw [hx]; decide) (by rw [hx]; decide) (by decide) (lc_1 I g82 g83 X hi K)
    by_cases h2 : k = 2
    · subst h2
      exact sw_tableIn (off := 253) (tgt := 298) dL_law_45 (by rw [hx]; decide) (by rw [hx]; decide) (by rw [hx]; decide) (by decide) (lc_2 I g82 g83 X hi K)
    by_cases h3 : k = 3
    · subst h3
      exact sw_tableIn (off := 266) (tgt := 311) dL_law_45 (by rw [hx]; decide) (by rw [hx]; decide) (by rw [hx]; decide) (by decide) (lc_3 I g82 g83 X hi K)
    by_cases h4 : k = 4
    · subst h4
      exact sw_tableIn (off := 279) (tgt := 324) dL_law_45 (by rw [hx]; decide) (by rw [hx]; decide) (by rw [hx]; decide) (by decide) (lc_4 I g82 g83 X hi K)
    by_cases h5 : k = 5
    · subst h5
      exact sw_tableIn (off := 304) (tgt := 349) dL_law_45 (by rw [hx]; decide) (by rw [hx]; decide) (by rw [hx]; decide) (by decide) (lc_5 I g82 g83 X hi K)
    by_cases h6 : k = 6
    · subst h6
      exact sw_tableIn (off := 372) (tgt := 417) dL_law_45 (by rw [hx]; decide) (by rw [hx]; decide) (by rw [hx]; decide) (by decide) (lc_6 I g82 g83 X hi K)
    by_cases h7 : k = 7
    · subst h7
      exact sw_tableIn (off := 440) (tgt := 485) dL_law_45 (by rw [hx]; decide) (by rw [hx]; decide) (by rw [hx]; decide) (by decide) (lc_7 I g82 g83 X hi K)
    by_cases h8 : k = 8
    · subst h8
      exact sw_tableIn (off := 508) (tgt := 553) dL_law_45 (by rw [hx]; decide) (by rw [hx]; decide) (by rw [hx]; decide) (by decide) (lc_8 I g82 g83 X hi K)
    by_cases h9 : k = 9
    · subst h9
      exact sw_tableIn (off := 588) (tgt := 633) dL_law_45 (by rw [hx]; decide) (by rw [hx]; decide) (by rw [hx]; decide) (by decide) (lc_9 I g82 g83 X hi K)
    by_cases h10 : k = 10
    · subst h10
      exact sw_tableIn (off := 668) (tgt := 713) dL_law_45 (by rw [hx]; decide) (by rw [hx]; decide) (by rw [hx]; decide) (by decide) (lc_10 I g82 g83 X hi K)
    by_cases h11 : k = 11
    · subst h11
      exact sw_tableIn (off := 745) (tgt := 790) dL_law_45 (by rw [hx]; decide) (by rw [hx]; decide) (by rw [hx]; decide) (by decide) (lc_11 I g82 g83 X hi K)
    by_cases h12 : k = 12
    · subst h12
      exact sw_tableIn (off := 823) (tgt := 868) dL_law_45 (by rw [hx]; decide) (by rw [hx]; decide) (by rw [hx]; decide) (by decide) (lc_12 I g82 g83 X hi K)
    by_cases h13 : k = 13
    · subst h13
      exact sw_tableIn (off := 879) (tgt := 924) dL_law_45 (by rw [hx]; decide) (by rw [hx]; decide) (by rw [hx]; decide) (by decide) (lc_13 I g82 g83 X hi K)
    by_cases h14 : k = 14
    · subst h14
      exact sw_tableIn (off := 923) (tgt := 968) dL_law_45 (by rw [hx]; decide) (by rw [hx]; decide) (by rw [hx]; decide) (by decide) (lc_14 I g82 g83 X hi K)
    by_cases h15 : k = 15
    · subst h15
      exact sw_tableIn (off := 967) (tgt := 1012) dL_law_45 (by rw [hx]; decide) (by rw [hx]; decide) (by rw [hx]; decide) (by decide) (lc_15 I g82 g83 X hi K)
    by_cases h16 : k = 16
    · subst h16
      exact sw_tableIn (off := 1023) (tgt := 1068) dL_law_45 (by rw [hx]; decide) (by rw [hx]; decide) (by rw [hx]; decide) (by decide) (lc_16 I g82 g83 X hi K)
    by_cases h17 : k = 17
    · subst h17
      exact sw_tableIn (off := 1036) (tgt := 1081) dL_law_45 (by rw [hx]; decide) (by rw [hx]; decide) (by rw [hx]; decide) (by decide) (lc_17 I g82 g83 X hi K)
    by_cases h18 : k = 18
    · subst h18
      exact sw_tableIn (off := 1092) (tgt := 1137) dL_law_45 (by rw [hx]; decide) (by rw [hx]; decide) (by rw [hx]; decide) (by decide) (lc_18 I g82 g83 X hi K)
    by_cases h19 : k = 19
    · subst h19
      exact sw_tableIn (off := 1148) (tgt := 1193) dL_law_45 (by rw [hx]; decide) (by rw [hx]; decide) (by rw [hx]; decide) (by decide) (lc_19 I g82 g83 X hi K)
    by_cases h20 : k = 20
    · subst h20
      exact sw_tableIn (off := 1204) (tgt := 1249) dL_law_45 (by rw [hx]; decide) (by rw [hx]; decide) (by rw [hx]; decide) (by decide) (lc_20 I g82 g83 X hi K)
    by_cases h21 : k = 21
    · subst h21
      exact sw_tableIn (off := 1272) (tgt := 1317) dL_law_45 (by rw [hx]; decide) (by rw [hx]; decide) (by rw [hx]; decide) (by decide) (lc_21 I g82 g83 X hi K)
    by_cases h22 : k = 22
    · subst h22
      exact sw_tableIn (off := 1356) (tgt := 1401) dL_law_45 (by rw [hx]; decide) (by rw [hx]; decide) (by rw [hx]; decide) (by decide) (lc_22 I g82 g83 X hi K)
    by_cases h23 : k = 23
    · subst h23
      exact sw_tableIn (off := 1424) (tgt := 1469) dL_law_45 (by rw [hx]; decide) (by rw [hx]; decide) (by rw [hx]; decide) (by decide) (lc_23 I g82 g83 X hi K)
    by_cases h24 : k = 24
    · subst h24
      exact sw_tableIn (off := 1492) (tgt := 1537) dL_law_45 (by rw [hx]; decide) (by rw [hx]; decide) (by rw [hx]; decide) (by decide) (lc_24 I g82 g83 X hi K)
    by_cases h25 : k = 25
    · subst h25
      exact sw_tableIn (off := 1567) (tgt := 1612) dL_law_45 (by rw [hx]; decide) (by rw [hx]; decide) (by rw [hx]; decide) (by decide) (lc_25 I g82 g83 X hi K)
    by_cases h26 : k = 26
    · subst h26
      exact sw_tableIn (off := 1647) (tgt := 1692) dL_law_45 (by rw [hx]; decide) (by rw [hx]; decide) (by rw [hx]; decide) (by decide) (lc_26 I g82 g83 X hi K)
    by_cases h27 : k = 27
    · subst h27
      exact sw_tableIn (off := 1703) (tgt := 1748) dL_law_45 (by rw [hx]; decide) (by rw [hx]; decide) (by rw [hx]; decide) (by decide) (lc_27 I g82 g83 X hi K)
    by_cases h28 : k = 28
    · subst h28
      exact sw_tableIn (off := 1771) (tgt := 1816) dL_law_45 (by rw [hx]; decide) (by rw [hx]; decide) (by rw [hx]; decide) (by decide) (lc_28 I g82 g83 X hi K)
    by_cases h29 : k = 29
    · subst h29
      exact sw_tableIn (off := 1839) (tgt := 1884) dL_law_45 (by rw [hx]; decide) (by rw [hx]; decide) (by rw [hx]; decide) (by decide) (lc_29 I g82 g83 X hi K)
    by_cases h30 : k = 30
    · subst h30
      exact sw_tableIn (off := 1895) (tgt := 1940) dL_law_45 (by rw [hx]; decide) (by rw [hx]; decide) (by rw [hx]; decide) (by decide) (lc_30 I g82 g83 X hi K)
    by_cases h31 : k = 31
    · subst h31
      exact sw_tableIn (off := 1908) (tgt := 1953) dL_law_45 (by rw [hx]; decide) (by rw [hx]; decide) (by rw [hx]; decide) (by decide) (lc_31 I g82 g83 X hi K)
    by_cases h32 : k = 32
    · subst h32
      exact sw_tableIn (off := 1971) (tgt := 2016) dL_law_45 (by rw [hx]; decide) (by rw [hx]; decide) (by rw [hx]; decide) (by decide) (lc_32 I g82 g83 X hi K)
    by_cases h33 : k = 33
    · subst h33
      exact sw_tableIn (off := 2034) (tgt := 2079) dL_law_45 (by rw [hx]; decide) (by rw [hx]; decide) (by rw [hx]; decide) (by decide) (lc_33 I g82 g83 X hi K)
    by_cases h34 : k = 34
    · subst h34
      exact sw_tableIn (off := 2047) (tgt := 2092) dL_law_45 (by rw [hx]; decide) (by rw [hx]; decide) (by rw [hx]; decide) (by decide) (lc_34 I g82 g83 X hi K)
    exact absurd hk (by omega)
theorem lw_loop (hxs : xs.length ≤ 3072) : ∀ (j i : Nat) (c : Nat → List Value), INV c → (∃ a, c 82 = [.long a]) → (∃ a, c 83 = [.double a]) → i ≤ 4000 → xs.length < i + 6 * j + 6 → SW (some xs) m_L_law (d + 22) j (6 * j) 28 (LL i) [] (hp c) PL := by
  intro j
  induction j with
  | zero =>
    intro i c I g82 g83 hi hl
    refine sw_iload dL_law_28 rfl (sw_aload_nt dL_law_30 rfl (Or.inr (Or.inr ⟨rfl, fun q => by cases q⟩)) (sw_slen dL_law_31 (sw_bipush (v := 6) dL_law_32 (by decide) (sw_isub dL_law_34 ?_))))
    refine sw_icmp_gt (tgt := 2154) dL_law_35 (by decide) (fun _ => ?_) (fun q => absurd ((ln_lt (by omega) (by omega)).mpr (by omega)) q)
    exact sw_iconst (v := 1) dL_law_2154 (by decide) (sw_ret (v := some (.int 1)) dL_law_2155 (rt_n (by decide)) rfl)
  | succ j ih =>
    intro i c I g82 g83 hi hl
    refine sw_iload dL_law_28 rfl (sw_aload_nt dL_law_30 rfl (Or.inr (Or.inr ⟨rfl, fun q => by cases q⟩)) (sw_slen dL_law_31 (sw_bipush (v := 6) dL_law_32 (by decide) (sw_isub dL_law_34 ?_))))
    refine sw_icmp_gt (tgt := 2154) dL_law_35 (by decide) (fun _ => ?_) (fun q => ?_)
    · exact sw_iconst (v := 1) dL_law_2154 (by decide) (sw_ret (v := some (.int 1)) dL_law_2155 (rt_n (by decide)) rfl)
    · have h6 : i + 6 ≤ xs.length := by
        rcases Nat.lt_or_ge xs.length (i + 6) with h | h
        · exact absurd ((ln_lt (i := i) (len := xs.length) (by omega) (by omega)).mpr h) q
        · exact h
      have X : ∀ j, j < 6 → ∃ x, xs[i + j]? = some x := fun j hj => ⟨_, List.getElem?_eq_getElem (by omega)⟩
      obtain ⟨x0, hx0⟩ := X 0 (by decide)
      refine sw_aload_nt dL_law_38 rfl (Or.inr (Or.inr ⟨rfl, fun q => by cases q⟩)) (sw_iload dL_law_39 rfl (sw_sld dL_law_41 (nI_pos (by omega)) (by rw [cl_nI (by omega)]; exact hx0) (sw_bipush (v := 63) dL_law_42 (by decide) (sw_iand dL_law_44 ?_))))
      refine lw_call (rc := j) (rs := 6 * j) I g82 g83 X (by omega) _ (fun c' I' a b => ?_)
      refine sw_iinc (v := nI (i + 6)) dL_law_2148 rfl (nI_add i 6) (by decide) rfl (sw_goto (tgt := 28) dL_law_2151 (by decide) ?_)
      exact ih (i + 6) c' I' a b (by omega) (by omega)
/-- a store beside the script's place -/
theorem sw_astore_s {M : ab_M} {pc j : Nat} {ls : List (Option Value)} {st : List Value} {h : ab_H} {v : Fin 4} (hd : decode M.2.1 pc = .ok (.astore_n v, 1)) (hn : (v : Nat) < M.2.2.1) (hs : ∀ (k : Nat) (u : Value), (v : Nat) = k + 1 → ls[k]? = some (some u) → u = .retAddr 100) (k : SW (some xs) M d rc rs (pc + 1) (ls.set v (some (.ref j))) st h P) : SW (some xs) M d rc rs pc ls (.ref j :: st) h P := by
  intro p l e R s m args below meth c Q D dA τ A σ0 n0 Cm Sm hX σ H locs cells slots lv hY hl hol hos
  obtain ⟨-, -, -, -, -, -, -, -, -, -, b, e1, -⟩ := hX.2.2.2.2.2.2.2.2.2.2.1
  exact lv_astore_n hX.1 hX.2.2.1 hd rfl hl hn rfl (fun ls' hl' => k.use hX hY (ab_l_set1 rfl (fun k u h1 h2 => by
    rw [hs k u h1 h2]
    show (τ 100).category = 1
    rw [e1]; rfl) hl') (ab_okL_set hol (ab_okS_hd hos)) (ab_okS_tl hos))
theorem ln70 : ([] ++ o_X9 ([] : ab_H).length).length = 70 := rfl
/-- the law, from its first row -/
theorem lw_all (hxs : xs.length ≤ 3072) : SW (some xs) m_L_law 22 (512 + 84) (6 * 512 + 2692) 0 [some (.retAddr 100), none, none, none, none, none, none, none, none] [] [] PL := by
  refine sw_new (rc := 595) (rs := 5754) (N := 10) dL_law_0 ln_L_8 ?_
  refine sw_dup dL_law_3 (fun _ _ => rfl) ?_
  refine sw_cI (M := m_L_law) (d := 21) (mc := 69) (ms := 1400) (rc := 526) (rs := 4354) dL_law_4 li_L_107 (i_X9 (d := 18) []) rfl rfl (Nat.le_of_ble_eq_true rfl) (fun _ _ => rfl) rfl ?_
  refine sw_astore_s dL_law_7 (by decide) (fun k u h1 h2 => by
    have : k = 0 := Nat.succ.inj h1.symm
    subst this; cases h2; rfl) ?_
  refine sw_new (rc := 525) (rs := 4327) (N := 27) dL_law_8 ln_L_108 ?_
  refine sw_dup dL_law_11 (fun _ _ => rfl) ?_
  refine sw_cI (M := m_L_law) (d := 21) (mc := 11) (ms := 1252) (rc := 514) (rs := 3075) dL_law_12 li_L_110 (i_X10 (d := 21) ([] ++ o_X9 ([] : ab_H).length)) rfl rfl (Nat.le_of_ble_eq_true rfl) (fun _ _ => rfl) rfl ?_
  refine sw_astore_n dL_law_15 (by decide) rfl ?_
  refine sw_iconst (v := 1) dL_law_16 (by decide) ?_
  refine sw_newL (rc := 513) (rs := 3074) (N := 1) dL_law_17 aw_long (by decide) (by decide) (by decide) ?_
  refine sw_astore_n dL_law_19 (by decide) rfl ?_
  refine sw_iconst (v := 1) dL_law_20 (by decide) ?_
  refine sw_newD (rc := 512) (rs := 3073) (N := 1) dL_law_21 aw_double (by decide) (by decide) (by decide) ?_
  refine sw_astore dL_law_23 (by decide) rfl ?_
  refine sw_iconst (v := 0) dL_law_25 (by decide) ?_
  refine sw_istore dL_law_26 (by decide) rfl ?_
  show SW (some xs) m_L_law (0 + 22) (512 + 0) (6 * 512 + 1) 28 (LL 0) [] h00 PL
  rw [h00_hp]
  exact sw_room (lw_loop hxs 512 0 c00 c00_I ⟨0, c00_o.1⟩ ⟨0, c00_o.2⟩ (by decide) (by omega))
end
