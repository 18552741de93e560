section BASE
variable {s : State} {args : Array Value} {A : Nat → Prop}
/-! what the claim says of the start is what the abstract machine stands on -/
abbrev FL : List Cond := flatC (Jvm.Cond.and given_1 narrow_1)
theorem bs_cl (hts : ∀ w ∈ ab_big, w.before args s = true) : ∃ (dC : Nat → ClassId) (dI : Nat → Nat → Nat), ∀ (c : Nat) (q : vw_C), ab_cl[c]? = some q → u_Kn s q.1 q.2.1 q.2.2 (dC c) (dI c) := by
  have key : ∀ c : Nat, ∃ p : ClassId × (Nat → Nat), ∀ q, ab_cl[c]? = some q → u_Kn s q.1 q.2.1 q.2.2 p.1 p.2 := by
    intro c
    by_cases h0 : c = 0
    · subst h0
      obtain ⟨x, y, h⟩ := u_known (C := RX0) (T := TX0) (N := 2) (n := 2) hts uw_X0 (hts _ (ab_t1 42 (by decide +kernel) rfl))
      exact ⟨(x, y), fun q hq => by cases hq; exact h⟩
    by_cases h1 : c = 1
    · subst h1
      obtain ⟨x, y, h⟩ := u_known (C := RX1) (T := TX1) (N := 1) (n := 1) hts uw_X1 (hts _ (ab_t1 82 (by decide +kernel) rfl))
      exact ⟨(x, y), fun q hq => by cases hq; exact h⟩
    by_cases h2 : c = 2
    · subst h2
      obtain ⟨x, y, h⟩ := u_known (C := RX2) (T := TX2) (N := 3) (n := 3) hts uw_X2 (hts _ (ab_t1 166 (by decide +kernel) rfl))
      exact ⟨(x, y), fun q hq => by cases hq; exact h⟩
    by_cases h3 : c = 3
    · subst h3
      obtain ⟨x, y, h⟩ := u_known (C := RX3) (T := TX3) (N := 3) (n := 3) hts uw_X3 (hts _ (ab_t1 58 (by decide +kernel) rfl))
      exact ⟨(x, y), fun q hq => by cases hq; exact h⟩
    by_cases h4 : c = 4
    · subst h4
      obtain ⟨x, y, h⟩ := u_known (C := RX4) (T := TX4) (N := 2) (n := 2) hts uw_X4 (hts _ (ab_t1 131 (by decide +kernel) rfl))
      exact ⟨(x, y), fun q hq => by cases hq; exact h⟩
    by_cases h5 : c = 5
    · subst h5
      obtain ⟨x, y, h⟩ := u_known (C := RX5) (T := TX5) (N := 5) (n := 5) hts uw_X5 (hts _ (ab_t1 214 (by decide +kernel) rfl))
      exact ⟨(x, y), fun q hq => by cases hq; exact h⟩
    by_cases h6 : c = 6
    · subst h6
      obtain ⟨x, y, h⟩ := u_known (C := RX6) (T := TX6) (N := 8) (n := 8) hts uw_X6 (hts _ (ab_t1 36 (by decide +kernel) rfl))
      exact ⟨(x, y), fun q hq => by cases hq; exact h⟩
    by_cases h7 : c = 7
    · subst h7
      obtain ⟨x, y, h⟩ := u_known (C := RX7) (T := TX7) (N := 5) (n := 5) hts uw_X7 (hts _ (ab_t1 182 (by decide +kernel) rfl))
      exact ⟨(x, y), fun q hq => by cases hq; exact h⟩
    by_cases h8 : c = 8
    · subst h8
      obtain ⟨x, y, h⟩ := u_known (C := RX8) (T := TX8) (N := 6) (n := 6) hts uw_X8 (hts _ (ab_t1 125 (by decide +kernel) rfl))
      exact ⟨(x, y), fun q hq => by cases hq; exact h⟩
    by_cases h9 : c = 9
    · subst h9
      obtain ⟨x, y, h⟩ := u_known (C := RX9) (T := TX9) (N := 10) (n := 10) hts uw_X9 (hts _ (ab_t1 28 (by decide +kernel) rfl))
      exact ⟨(x, y), fun q hq => by cases hq; exact h⟩
    by_cases h10 : c = 10
    · subst h10
      obtain ⟨x, y, h⟩ := u_known (C := RX10) (T := TX10) (N := 27) (n := 27) hts uw_X10 (hts _ (ab_t5 216 (by decide +kernel) rfl))
      exact ⟨(x, y), fun q hq => by cases hq; exact h⟩
    by_cases h11 : c = 11
    · subst h11
      obtain ⟨x, y, h⟩ := u_known (C := ab_E 1) (T := TX0) (N := 0) (n := 6) hts (fun w hw => absurd hw List.not_mem_nil) (hts _ (ab_t3 212 (by decide +kernel) rfl))
      exact ⟨(x, y), fun q hq => by cases hq; exact h⟩
    by_cases h12 : c = 12
    · subst h12
      obtain ⟨x, y, h⟩ := u_known (C := ab_E 2) (T := TX0) (N := 0) (n := 6) hts (fun w hw => absurd hw List.not_mem_nil) (hts _ (ab_t4 74 (by decide +kernel) rfl))
      exact ⟨(x, y), fun q hq => by cases hq; exact h⟩
    by_cases h13 : c = 13
    · subst h13
      obtain ⟨x, y, h⟩ := u_known (C := ab_E 3) (T := TX0) (N := 0) (n := 6) hts (fun w hw => absurd hw List.not_mem_nil) (hts _ (ab_t4 202 (by decide +kernel) rfl))
      exact ⟨(x, y), fun q hq => by cases hq; exact h⟩
    by_cases h14 : c = 14
    · subst h14
      obtain ⟨x, y, h⟩ := u_known (C := ab_E 4) (T := TX0) (N := 0) (n := 6) hts (fun w hw => absurd hw List.not_mem_nil) (hts _ (ab_t4 149 (by decide +kernel) rfl))
      exact ⟨(x, y), fun q hq => by cases hq; exact h⟩
    exact ⟨(0, fun _ => 0), fun q hq => absurd (List.getElem?_eq_some_iff.mp hq).1 (by show ¬ c < 15; omega)⟩
  obtain ⟨f, hf⟩ := Classical.axiomOfChoice key
  exact ⟨fun c => (f c).1, fun c => (f c).2, hf⟩
theorem bs_ar (hts : ∀ w ∈ ab_big, w.before args s = true) (ho : (Cond.arrayOver (.array .int)).before args s = true) : ∃ dA : Nat → ClassId, ∀ (k : Nat) (q : ClassId × FieldType), (ab_tys dA)[k]? = some q → ArrOfT s q.1 q.2 ∧ va_RA s q.1 q.2 := by
  obtain ⟨c0, k0, m0, a1, a2, a3⟩ := Cond.arrayClass_spec (hts _ aw_int)
  obtain ⟨c1, k1, m1, b1, b2, b3⟩ := Cond.arrayClass_spec (hts _ aw_byte)
  obtain ⟨c2, k2, m2, d1, d2, d3⟩ := Cond.arrayClass_spec (hts _ aw_long)
  obtain ⟨c3, k3, m3, e1, e2, e3⟩ := Cond.arrayClass_spec (hts _ aw_double)
  obtain ⟨cI, c4, k4, w1, w2, w3, w4⟩ := mn_words ho
  refine ⟨fun k => if k = 0 then c0 else if k = 1 then c1 else if k = 2 then c2 else if k = 3 then c3 else c4, fun k q hq => ?_⟩
  by_cases h0 : k = 0
  · subst h0; cases hq
    exact ⟨fun n z => ⟨fun k h => (by cases h), k0, a2, m0, a3⟩, a1⟩
  by_cases h1 : k = 1
  · subst h1; cases hq
    exact ⟨fun n z => ⟨fun k h => (by cases h), k1, b2, m1, b3⟩, b1⟩
  by_cases h2 : k = 2
  · subst h2; cases hq
    exact ⟨fun n z => ⟨fun k h => (by cases h), k2, d2, m2, d3⟩, d1⟩
  by_cases h3 : k = 3
  · subst h3; cases hq
    exact ⟨fun n z => ⟨fun k h => (by cases h), k3, e2, m3, e3⟩, e1⟩
  by_cases h4 : k = 4
  · subst h4; cases hq
    exact ⟨fun n z => ⟨fun k h => (by cases h), k4, w3, cI, w4⟩, (show s.vm.findClass ("[" ++ (FieldType.array .int).toString) = some c4 by rw [show "[" ++ (FieldType.array .int).toString = "[[I" by decide +kernel]; exact w2)⟩
  exact absurd (List.getElem?_eq_some_iff.mp hq).1 (by show ¬ k < 5; omega)
theorem bs_nest (hts : ∀ w ∈ lw_tbl, w.before args s = true) : ∀ w ∈ ab_nest, va_Nw w s := fun w hw => by
  obtain ⟨h1, h2⟩ := List.mem_filter.mp hw
  refine va_Nw.of ?_ (hts w h1)
  cases w <;> first | rfl | cases h2
theorem bs_eqR {t u : Term} {a : Nat} (h : (Cond.eq t u).before args s = true) (ht : t.eval args s none [] s = some (.ref a)) : u.eval args s none [] s = some (.ref a) := by
  cases hu : u.eval args s none [] s with
  | none => simp [Cond.before, Cond.holds, Cond.value, ht, hu] at h
  | some v => cases v <;> simp [Cond.before, Cond.holds, Cond.value, ht, hu] at h ⊢ <;> exact h.symm
/-- a text, by its words -/
theorem bs_1 {own : String} {k L : Nat} {B : List Int32} (hA : ∀ a : Nat, a < s.heap.size → ¬ A a) (hL : L < 2 ^ 31) (hex : (Cond.exactly (.string own k) "java/lang/String").before args s = true) (hco : (Cond.eq (.field (.string own k) "java/lang/String" "coder" "B") (.int 0)).before args s = true) (har : (Cond.arrayOf (.field (.string own k) "java/lang/String" "value" "[B") .byte).before args s = true) (hle : (Cond.eq (.length (.field (.string own k) "java/lang/String" "value" "[B")) (.int (Int32.ofNat L))).before args s = true)
    (hel : ∀ j : Nat, j < L → (Cond.eq (.elem (.field (.string own k) "java/lang/String" "value" "[B") (.int (Int32.ofNat j))) (.int (B.getD j 0))).before args s = true) :
    ∃ q : Nat × Nat, (Term.string own k).eval args s none [] s = some (.ref q.1) ∧ va_O "java/lang/String" q.1 A s s.heap ∧ va_OF "java/lang/String" "coder" "B" (.int 0) q.1 A s s.heap ∧ va_OF "java/lang/String" "value" "[B" (.ref q.2) q.1 A s s.heap ∧ va_T .byte q.2 L (fun j => .int (B.getD j 0)) A s s.heap := by
  have z : ∀ i : Nat, i < 1 → i = 0 := fun i hi => by omega
  obtain ⟨adK, adV, ⟨h1, -⟩, h2⟩ := vk_Sof (N := 1) (tm := fun _ => Term.string own k) (len := [L]) (byt := [B]) (A := A) (fun i hi => by rw [z i hi]; exact hL) (fun _ _ => hex) (fun _ _ => hco) (fun _ _ => har) (fun i hi => by rw [z i hi]; exact hle) (fun i hi => by rw [z i hi]; exact hel) (fun i j hi hj h => absurd ((z i hi).trans (z j hj).symm) h) hA
  exact ⟨(adK 0, adV 0), h2 0 (by decide), (h1 0 (by decide)).1, (h1 0 (by decide)).2.1, (h1 0 (by decide)).2.2.1, (h1 0 (by decide)).2.2.2⟩
theorem bs_of {o n d : String} {v v' : Value} {a : Nat} (h : va_OF o n d v a A s s.heap) (h' : va_OF o n d v' a A s s.heap) : v = v' := by
  obtain ⟨cf, k, i, f, cell, h1, h2, h3, h4, h5, h6⟩ := h
  obtain ⟨cf', k', i', f', cell', g1, g2, g3, g4, g5, g6⟩ := h'
  cases h1.symm.trans g1
  cases h3.symm.trans g3
  exact Option.some.inj (h5.symm.trans g5)
theorem bs_T {a L L' : Nat} {f f' : Nat → Value} (hL : L < 1000) (hL' : L' < 1000) (h : va_T .byte a L f A s s.heap) (h' : va_T .byte a L' f' A s s.heap) : L = L' ∧ ∀ j, j < L → f j = f' j := by
  obtain ⟨cell, h1, h2, h3, h4, h5, h6, h7⟩ := h
  obtain ⟨cell', g1, g2, g3, g4, g5, g6, g7⟩ := h'
  cases h1.symm.trans g1
  have e : L = L' := (nI_eq (by omega) (by omega)).mp (h5.symm.trans g5)
  exact ⟨e, fun j hj => Option.some.inj ((h6 j hj).symm.trans (g6 j (by omega)))⟩
def bs_k (i : Nat) : Nat := [55, 76, 82, 84, 86, 91].getD i 0
theorem bs_six (hs : ∀ w ∈ FL, w.before args s = true) (hA : ∀ a : Nat, a < s.heap.size → ¬ A a) : ∀ i : Nat, ∃ q : Nat × Nat, i < 6 → (Term.string RX6 (bs_k i)).eval args s none [] s = some (.ref q.1) ∧ va_O "java/lang/String" q.1 A s s.heap ∧ va_OF "java/lang/String" "coder" "B" (.int 0) q.1 A s s.heap ∧ va_OF "java/lang/String" "value" "[B" (.ref q.2) q.1 A s s.heap ∧ va_T .byte q.2 (ab_len.getD i 0) (fun j => .int ((ab_byt.getD i []).getD j 0)) A s s.heap := by
  intro i
  by_cases h0 : i = 0
  · subst h0
    have el : ∀ j : Nat, j < 8 → (Cond.eq (.elem (.field (.string RX6 (bs_k 0)) "java/lang/String" "value" "[B") (.int (Int32.ofNat j))) (.int ((ab_byt.getD 0 []).getD j 0))) ∈ FL := by decide +kernel
    obtain ⟨q, h⟩ := bs_1 (own := RX6) (k := bs_k 0) (L := 8) (B := ab_byt.getD 0 []) hA (by decide) (hs _ (by decide +kernel)) (hs _ (by decide +kernel)) (hs _ (by decide +kernel)) (hs _ (by decide +kernel)) (fun j hj => hs _ (el j hj))
    exact ⟨q, fun _ => h⟩
  by_cases h1 : i = 1
  · subst h1
    have el : ∀ j : Nat, j < 4 → (Cond.eq (.elem (.field (.string RX6 (bs_k 1)) "java/lang/String" "value" "[B") (.int (Int32.ofNat j))) (.int ((ab_byt.getD 1 []).getD j 0))) ∈ FL := by decide +kernel
    obtain ⟨q, h⟩ := bs_1 (own := RX6) (k := bs_k 1) (L := 4) (B := ab_byt.getD 1 []) hA (by decide) (hs _ (by decide +kernel)) (hs _ (by decide +kernel)) (hs _ (by decide +kernel)) (hs _ (by decide +kernel)) (fun j hj => hs _ (el j hj))
    exact ⟨q, fun _ => h⟩
  by_cases h2 : i = 2
  · subst h2
    have el : ∀ j : Nat, j < 4 → (Cond.eq (.elem (.field (.string RX6 (bs_k 2)) "java/lang/String" "value" "[B") (.int (Int32.ofNat j))) (.int ((ab_byt.getD 2 []).getD j 0))) ∈ FL := by decide +kernel
    obtain ⟨q, h⟩ := bs_1 (own := RX6) (k := bs_k 2) (L := 4) (B := ab_byt.getD 2 []) hA (by decide) (hs _ (by decide +kernel)) (hs _ (by decide +kernel)) (hs _ (by decide +kernel)) (hs _ (by decide +kernel)) (fun j hj => hs _ (el j hj))
    exact ⟨q, fun _ => h⟩
  by_cases h3 : i = 3
  · subst h3
    have el : ∀ j : Nat, j < 4 → (Cond.eq (.elem (.field (.string RX6 (bs_k 3)) "java/lang/String" "value" "[B") (.int (Int32.ofNat j))) (.int ((ab_byt.getD 3 []).getD j 0))) ∈ FL := by decide +kernel
    obtain ⟨q, h⟩ := bs_1 (own := RX6) (k := bs_k 3) (L := 4) (B := ab_byt.getD 3 []) hA (by decide) (hs _ (by decide +kernel)) (hs _ (by decide +kernel)) (hs _ (by decide +kernel)) (hs _ (by decide +kernel)) (fun j hj => hs _ (el j hj))
    exact ⟨q, fun _ => h⟩
  by_cases h4 : i = 4
  · subst h4
    have el : ∀ j : Nat, j < 4 → (Cond.eq (.elem (.field (.string RX6 (bs_k 4)) "java/lang/String" "value" "[B") (.int (Int32.ofNat j))) (.int ((ab_byt.getD 4 []).getD j 0))) ∈ FL := by decide +kernel
    obtain ⟨q, h⟩ := bs_1 (own := RX6) (k := bs_k 4) (L := 4) (B := ab_byt.getD 4 []) hA (by decide) (hs _ (by decide +kernel)) (hs _ (by decide +kernel)) (hs _ (by decide +kernel)) (hs _ (by decide +kernel)) (fun j hj => hs _ (el j hj))
    exact ⟨q, fun _ => h⟩
  by_cases h5 : i = 5
  · subst h5
    have el : ∀ j : Nat, j < 6 → (Cond.eq (.elem (.field (.string RX6 (bs_k 5)) "java/lang/String" "value" "[B") (.int (Int32.ofNat j))) (.int ((ab_byt.getD 5 []).getD j 0))) ∈ FL := by decide +kernel
    obtain ⟨q, h⟩ := bs_1 (own := RX6) (k := bs_k 5) (L := 6) (B := ab_byt.getD 5 []) hA (by decide) (hs _ (by decide +kernel)) (hs _ (by decide +kernel)) (hs _ (by decide +kernel)) (hs _ (by decide +kernel)) (fun j hj => hs _ (el j hj))
    exact ⟨q, fun _ => h⟩
  exact ⟨(0, 0), fun h => by omega⟩
theorem bs_dif : ∀ i, i < 6 → ∀ j, j < 6 → ab_len.getD i 0 = ab_len.getD j 0 → (∀ k, k < ab_len.getD i 0 → (ab_byt.getD i []).getD k 0 = (ab_byt.getD j []).getD k 0) → i = j := by decide
/-- each text of the tables, and where it stands -/
def bs_chk (w : Cond) : Bool := match w with
  | .stringRef own k tx => decide (Cond.exactly (.string own k) "java/lang/String" ∈ FL) && (List.range 6).all (fun i => decide (ab_txt[i]? ≠ some tx) || decide (own = RX6 ∧ k = bs_k i) || decide (Cond.eq (.string RX6 (bs_k i)) (.string own k) ∈ FL))
  | _ => true
theorem bs_all : lw_tbl.all bs_chk = true := by decide +kernel
theorem bs_txt : ∀ i, ∀ tx, ab_txt[i]? = some tx → i < 6 := fun i tx h => (List.getElem?_eq_some_iff.mp h).1
end BASE
