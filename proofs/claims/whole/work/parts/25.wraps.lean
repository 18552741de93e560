/-- M, called, returns v and leaves the heap h' -/
def MSE (M : ab_M) (d : Nat) (args : List Value) (h : ab_H) (v : Option Value) (h' : ab_H) : Prop := MS M d 0 0 args h (fun o k => o = .inl v ∧ k = h')
/-- M, called, throws E -/
def MSX (M : ab_M) (d : Nat) (args : List Value) (h : ab_H) (E : Nat) (h' : ab_H) : Prop := MS M d 1 6 args h (fun o k => o = .inr E ∧ k = h')
/-- a constructor: mc things of ms slots come -/
def MSK (M : ab_M) (d mc ms : Nat) (args : List Value) (h : ab_H) (h' : ab_H) : Prop := MS M d mc ms args h (fun o k => o = .inl none ∧ k = h')
def ab_ac (As : List Value) : Bool := match As with
  | [] => true
  | .int _ :: l => ab_ac l
  | .ref _ :: l => ab_ac l
  | .retAddr k :: l => decide (k < 6) && ab_ac l
  | _ => false
theorem ab_ac_ok : ∀ {As : List Value}, ab_ac As = true → ∀ (σ : Nat → Nat) (τ : Nat → Value) (v : Value), v ∈ As → ((∃ k, v = .retAddr k) ∨ (ab_v σ τ v).category = 1)
  | [], _, _, _, _, hv => by cases hv
  | a :: l, h, σ, τ, v, hv => by
    rcases List.mem_cons.mp hv with rfl | hm
    · cases v with
      | int x => exact Or.inr rfl
      | ref x => exact Or.inr rfl
      | retAddr k => exact Or.inl ⟨k, rfl⟩
      | _ => simp [ab_ac] at h
    · cases a with
      | int x => exact ab_ac_ok (As := l) h σ τ v hm
      | ref x => exact ab_ac_ok (As := l) h σ τ v hm
      | retAddr k =>
        simp only [ab_ac, Bool.and_eq_true] at h
        exact ab_ac_ok (As := l) h.2 σ τ v hm
      | _ => simp [ab_ac] at h
theorem ab_ac_t : ∀ {As : List Value}, ab_ac As = true → ∀ k, .retAddr k ∈ As → k < 6
  | [], _, _, hv => by cases hv
  | a :: l, h, k, hv => by
    rcases List.mem_cons.mp hv with e | hm
    · subst e
      simp only [ab_ac, Bool.and_eq_true, decide_eq_true_eq] at h
      exact h.1
    · cases a with
      | int x => exact ab_ac_t (As := l) h k hm
      | ref x => exact ab_ac_t (As := l) h k hm
      | retAddr j =>
        simp only [ab_ac, Bool.and_eq_true] at h
        exact ab_ac_t (As := l) h.2 k hm
      | _ => simp [ab_ac] at h
section AB5
variable {sc : Option (List Int32)} {M N : ab_M} {d rc rs pc : Nat} {ls : List (Option Value)} {st : List Value} {h h2 : ab_H} {P : ab_O → ab_H → Prop} {v : Option Value}
theorem sw_cV {idx n r ci : Nat} {fs : List Value} {q : vw_C} {As : List Value} (hd : decode M.2.1 pc = .ok (.invokevirtual idx, 3)) (hL : ab_LV M.1.cls idx N n) (hm : MSE N d (.ref r :: As) h v h2) (hrc : h[r]? = some (ci, fs)) (hcl : ab_cl[ci]? = some q) (hci : ci < 100) (hqn : q.1 = N.1.cls) (hn : As.length = n) {st1 : List Value} (hst : st1 = As.reverse ++ .ref r :: st) (hc : (st.map fun v => v.category).sum ≤ 8) (hr : ∀ σ τ, (st.map (ab_v σ τ)).map (fun v => v.category) = st.map fun v => v.category) (ha : ab_ac As = true)
    (k : SW sc M (d + 1) rc rs (pc + 3) ls (v.toList ++ st) h2 P) : SW sc M (d + 1) rc rs pc ls st1 h P :=
  sw_callV (mc := 0) (ms := 0) hd hL hm hrc hcl hci hqn (Nat.le_refl _) hn hst hc hr (ab_ac_ok ha) (ab_ac_t ha) (fun w h1 e => by obtain ⟨e1, rfl⟩ := e; cases e1; exact k) (fun E h1 e => by cases e.1)
theorem sw_xV {idx n r ci E : Nat} {fs : List Value} {q : vw_C} {As : List Value} (hd : decode M.2.1 pc = .ok (.invokevirtual idx, 3)) (hL : ab_LV M.1.cls idx N n) (hm : MSX N d (.ref r :: As) h E h2) (hrc : h[r]? = some (ci, fs)) (hcl : ab_cl[ci]? = some q) (hci : ci < 100) (hqn : q.1 = N.1.cls) (hn : As.length = n) {st1 : List Value} (hst : st1 = As.reverse ++ .ref r :: st) (hc : (st.map fun v => v.category).sum ≤ 8) (hr : ∀ σ τ, (st.map (ab_v σ τ)).map (fun v => v.category) = st.map fun v => v.category) (ha : ab_ac As = true)
    (k : ST sc M (d + 1) rc rs pc ls h2 E P) : SW sc M (d + 1) (rc + 1) (rs + 6) pc ls st1 h P :=
  sw_callV (mc := 1) (ms := 6) hd hL hm hrc hcl hci hqn (Nat.le_refl _) hn hst hc hr (ab_ac_ok ha) (ab_ac_t ha) (fun w h1 e => by cases e.1) (fun E h1 e => by obtain ⟨e1, rfl⟩ := e; cases e1; exact k)
theorem sw_cS {idx n : Nat} {As : List Value} (hd : decode M.2.1 pc = .ok (.invokestatic idx, 3)) (hL : ab_LS M.1.cls idx N n) (hm : MSE N d As h v h2) (hn : As.length = n) {st1 : List Value} (hst : st1 = As.reverse ++ st) (hc : (st.map fun v => v.category).sum ≤ 8) (hr : ∀ σ τ, (st.map (ab_v σ τ)).map (fun v => v.category) = st.map fun v => v.category) (ha : ab_ac As = true)
    (k : SW sc M (d + 1) rc rs (pc + 3) ls (v.toList ++ st) h2 P) : SW sc M (d + 1) rc rs pc ls st1 h P :=
  sw_callS (mc := 0) (ms := 0) hd hL hm (Nat.le_refl _) hn hst hc hr (ab_ac_ok ha) (fun k hk => Or.inl (ab_ac_t ha k hk)) (fun w h1 e => by obtain ⟨e1, rfl⟩ := e; cases e1; exact k) (fun E h1 e => by cases e.1)
theorem sw_xS {idx n E : Nat} {As : List Value} (hd : decode M.2.1 pc = .ok (.invokestatic idx, 3)) (hL : ab_LS M.1.cls idx N n) (hm : MSX N d As h E h2) (hn : As.length = n) {st1 : List Value} (hst : st1 = As.reverse ++ st) (hc : (st.map fun v => v.category).sum ≤ 8) (hr : ∀ σ τ, (st.map (ab_v σ τ)).map (fun v => v.category) = st.map fun v => v.category) (ha : ab_ac As = true)
    (k : ST sc M (d + 1) rc rs pc ls h2 E P) : SW sc M (d + 1) (rc + 1) (rs + 6) pc ls st1 h P :=
  sw_callS (mc := 1) (ms := 6) hd hL hm (Nat.le_refl _) hn hst hc hr (ab_ac_ok ha) (fun k hk => Or.inl (ab_ac_t ha k hk)) (fun w h1 e => by cases e.1) (fun E h1 e => by obtain ⟨e1, rfl⟩ := e; cases e1; exact k)
theorem sw_cI {idx n r mc ms : Nat} {As : List Value} (hd : decode M.2.1 pc = .ok (.invokespecial idx, 3)) (hL : ab_LI M.1.cls idx N n) (hm : MSK N d mc ms (.ref r :: As) h h2) (hn : As.length = n) {st1 : List Value} (hst : st1 = As.reverse ++ .ref r :: st) (hc : (st.map fun v => v.category).sum ≤ 8) (hr : ∀ σ τ, (st.map (ab_v σ τ)).map (fun v => v.category) = st.map fun v => v.category) (ha : As = [])
    (k : SW sc M (d + 1) rc rs (pc + 3) ls st h2 P) : SW sc M (d + 1) (rc + mc) (rs + ms) pc ls st1 h P :=
  sw_callI hd hL hm (Nat.le_refl _) hn hst hc hr (fun σ τ v hv => by rw [ha] at hv; cases hv) (fun w h1 e => by obtain ⟨e1, rfl⟩ := e; cases e1; exact k) (fun E h1 e => by cases e.1)
/-- a length of a text -/
theorem sw_cT {idx n t : Nat} {As : List Value} (hd : decode M.2.1 pc = .ok (.invokevirtual idx, 3)) (hL : ab_LV M.1.cls idx N n) (hN : N.1.cls = "java/lang/String") (ht : t < 6) (hm : MSE N d (.retAddr t :: As) h v h2) (hn : As.length = n) {st1 : List Value} (hst : st1 = As.reverse ++ .retAddr t :: st) (hc : (st.map fun v => v.category).sum ≤ 8) (hr : ∀ σ τ, (st.map (ab_v σ τ)).map (fun v => v.category) = st.map fun v => v.category) (ha : ∀ σ τ v, v ∈ As → (ab_v σ τ v).category = 1)
    (k : SW sc M (d + 1) rc rs (pc + 3) ls (v.toList ++ st) h2 P) : SW sc M (d + 1) rc rs pc ls st1 h P :=
  sw_callT (mc := 0) (ms := 0) hd hL hN ht hm (Nat.le_refl _) hn hst hc hr ha (fun w h1 e => by obtain ⟨e1, rfl⟩ := e; cases e1; exact k) (fun E h1 e => by cases e.1)
theorem rt_i {x : Int32} : ab_ret (some .int) .ireturn (some (.int x)) := Or.inr (Or.inl ⟨.int, x, rfl, rfl, rfl, rfl⟩)
theorem rt_n {ty : FieldType} {x : Int32} (h : narrow ty (.int x) = .int x) : ab_ret (some ty) .ireturn (some (.int x)) := Or.inr (Or.inl ⟨ty, x, rfl, rfl, rfl, h⟩)
theorem rt_v : ab_ret none .return_ none := Or.inl ⟨rfl, rfl, rfl⟩
theorem rt_l {x : Int64} : ab_ret (some .long) .lreturn (some (.long x)) := Or.inr (Or.inr (Or.inl ⟨x, rfl, rfl, rfl⟩))
theorem rt_f {x : UInt32} : ab_ret (some .float) .freturn (some (.float x)) := Or.inr (Or.inr (Or.inr (Or.inl ⟨x, rfl, rfl, rfl⟩)))
theorem rt_d {x : UInt64} : ab_ret (some .double) .dreturn (some (.double x)) := Or.inr (Or.inr (Or.inr (Or.inr (Or.inl ⟨x, rfl, rfl, rfl⟩))))
theorem rt_a {t : FieldType} {i : Nat} : ab_ret (some (.array t)) .areturn (some (.ref i)) := Or.inr (Or.inr (Or.inr (Or.inr (Or.inr ⟨.array t, i, rfl, Or.inr ⟨t, rfl⟩, rfl, rfl⟩))))
end AB5
theorem ab_swOut {x : Int32} {n : Nat} {hi : Int} (hn : (n : Int) = hi + 1 ∧ n < 2147483648) (h : x.toInt < 0 ∨ hi < x.toInt) : ∀ i : Nat, i < n → ¬ x = Int32.ofNat i := by
  intro i hi2 e
  have h1 : x.toInt = (i : Int) := by rw [e]; exact nI_toInt (by omega)
  omega
theorem ab_swIn {x : Int32} {n : Nat} {hi : Int} (hn : (n : Int) = hi + 1 ∧ n < 2147483648) (h : ¬ (x.toInt < 0 ∨ hi < x.toInt)) : ∃ i : Nat, i < n ∧ x = Int32.ofNat i := by
  have h0 : ¬ x < 0 := fun q => h (Or.inl (by have := Int32.lt_iff_toInt_lt.mp q; simpa using this))
  obtain ⟨j, hj, e⟩ := nI_of h0
  refine ⟨j, ?_, e⟩
  have h1 : x.toInt = (j : Int) := by rw [e]; exact nI_toInt hj
  omega
theorem sw_fconst0 {sc : Option (List Int32)} {M : ab_M} {d rc rs pc : Nat} {ls : List (Option Value)} {st : List Value} {h : ab_H} {P : ab_O → ab_H → Prop} (hd : decode M.2.1 pc = .ok (.fconst 0, 1)) (k : SW sc M d rc rs (pc + 1) ls (.float 0 :: st) h P) : SW sc M d rc rs pc ls st h P := by
  intro p l e R s m args below meth c Q D dA τ A σ0 n0 Cm Sm hX σ H locs cells slots lv hY hl hol hos
  exact lv_fconst0 hX.1 hX.2.2.1 hd (k.use hX hY hl hol (ab_okS_cons trivial hos))
theorem sw_dconst0 {sc : Option (List Int32)} {M : ab_M} {d rc rs pc : Nat} {ls : List (Option Value)} {st : List Value} {h : ab_H} {P : ab_O → ab_H → Prop} (hd : decode M.2.1 pc = .ok (.dconst 0, 1)) (k : SW sc M d rc rs (pc + 1) ls (.double 0 :: st) h P) : SW sc M d rc rs pc ls st h P := by
  intro p l e R s m args below meth c Q D dA τ A σ0 n0 Cm Sm hX σ H locs cells slots lv hY hl hol hos
  exact lv_dconst0 hX.1 hX.2.2.1 hd (k.use hX hY hl hol (ab_okS_cons trivial hos))
