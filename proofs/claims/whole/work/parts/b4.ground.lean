section
variable {s : State} {args : Array Value} {A : Nat → Prop}
theorem bs_nb : ((List.range 5).all fun i => (List.range 5).all fun j => decide (i = j) || (decide (i = 0) || (decide (j = 0) || decide (Cond.not (.castable (ab_E i) (ab_E j)) ∈ FL)))) = true := by decide +kernel
theorem bs_nc {i j : Nat} (hi : i < 5) (hj : j < 5) (hij : i ≠ j) (h0 : 0 < i) (h1 : 0 < j) : Cond.not (.castable (ab_E i) (ab_E j)) ∈ FL := by
  have h := List.all_eq_true.mp (List.all_eq_true.mp bs_nb i (List.mem_range.mpr hi)) j (List.mem_range.mpr hj)
  rw [decide_eq_false hij, decide_eq_false (show ¬ i = 0 by omega), decide_eq_false (show ¬ j = 0 by omega), Bool.false_or, Bool.false_or, Bool.false_or] at h
  exact of_decide_eq_true h
theorem bs_ln : ∀ i, i < 6 → ab_len.getD i 0 < 1000 := by decide
theorem bs_str (htl : ∀ w ∈ lw_tbl, w.before args s = true) (hs : ∀ w ∈ FL, w.before args s = true) {q : Nat → Nat × Nat} (hq : ∀ i, i < 6 → (Term.string RX6 (bs_k i)).eval args s none [] s = some (.ref (q i).1)) {own tx : String} {k : Nat} (hm : Cond.stringRef own k tx ∈ lw_tbl) : ∃ a, vk_R own k tx a s ∧ ∀ i, ab_txt[i]? = some tx → (q i).1 = a := by
  have hc : bs_chk (.stringRef own k tx) = true := List.all_eq_true.mp bs_all _ hm
  unfold bs_chk at hc
  rw [Bool.and_eq_true, decide_eq_true_eq, List.all_eq_true] at hc
  obtain ⟨hc1, hc2⟩ := hc
  obtain ⟨a, c, cA, kA, q1, -⟩ := Cond.exactly_spec (args := args) (first := s) (o := none) (s := s) (idx := []) (t := .string own k) (cls := "java/lang/String") (hs _ hc1)
  refine ⟨a, vk_R.of (A := args) (htl _ hm) q1, fun i hi => ?_⟩
  have h6 := bs_txt i tx hi
  have h3 := hc2 i (List.mem_range.mpr h6)
  rw [Bool.or_eq_true, Bool.or_eq_true, decide_eq_true_eq, decide_eq_true_eq, decide_eq_true_eq] at h3
  rcases h3 with (h4 | ⟨h5, h5'⟩) | h5
  · exact absurd hi h4
  · subst h5; subst h5'
    have := q1.symm.trans (hq i h6)
    cases this; rfl
  · have := q1.symm.trans (bs_eqR (hs _ h5) (hq i h6))
    cases this; rfl
theorem bs_G {xs : List Int32} {b : Nat} (htl : ∀ w ∈ lw_tbl, w.before args s = true) (hs : ∀ w ∈ FL, w.before args s = true) (hX : va_X b xs.length (fun j => xs.getD j 0) s s.heap) (hb : b < s.heap.size) (hA : ∀ a : Nat, a < s.heap.size → ¬ A a) : ∃ (D : va_G) (dA : Nat → ClassId) (τ : Nat → Value), τ 100 = .ref b ∧ ab_G (some xs) D dA τ A s s.heap := by
  have hbig : ∀ w ∈ ab_big, w.before args s = true := fun w hw => htl w (List.mem_filter.mp hw).1
  obtain ⟨dC, dI, hC⟩ := bs_cl hbig
  have hov : (Cond.arrayOver (.array .int)).before args s = true := htl _ (ab_l1 188 (by decide +kernel))
  obtain ⟨dA, hAr⟩ := bs_ar hbig hov
  obtain ⟨q, hq⟩ := Classical.axiomOfChoice (bs_six hs hA)
  obtain ⟨f50, hz50, hc50⟩ : ∃ v : Value, va_Z ab_siC "SIOOBE_FORMATTER" "Ljava/util/function/BiFunction;" v A s s.heap ∧ v.category = 1 := by
    rcases va_Zqof (args := args) (s := s) (C := ab_siC) (n := "SIOOBE_FORMATTER") (d := "Ljava/util/function/BiFunction;") (A := A) (htl _ (ab_l2 120 (by decide +kernel))) (htl _ (ab_l1 15 (by decide +kernel))) (hs _ (by decide +kernel)) hA with h | ⟨t, h⟩
    · exact ⟨.null, h, rfl⟩
    · exact ⟨.ref t, h, rfl⟩
  obtain ⟨τ, hτ⟩ : ∃ τ : Nat → Value, τ = fun i => if i < 6 then .ref (q i).1 else if 10 ≤ i ∧ i < 16 then .ref (q (i - 10)).2 else if i = 50 then f50 else .ref b := ⟨_, rfl⟩
  have t1 : ∀ i, i < 6 → τ i = .ref (q i).1 := fun i hi => by rw [hτ]; exact if_pos hi
  have t2 : ∀ i, i < 6 → τ (10 + i) = .ref (q i).2 := fun i hi => by
    rw [hτ]
    show (if 10 + i < 6 then Value.ref (q (10 + i)).1 else if 10 ≤ 10 + i ∧ 10 + i < 16 then .ref (q (10 + i - 10)).2 else if 10 + i = 50 then f50 else .ref b) = _
    rw [if_neg (by omega), if_pos (by omega), show 10 + i - 10 = i by omega]
  have t50 : τ 50 = f50 := by rw [hτ]; rfl
  have t100 : τ 100 = .ref b := by rw [hτ]; rfl
  refine ⟨(dC, dI), dA, τ, t100, ⟨hC, hAr⟩, bs_nest htl, fun own k tx hm => ?_, ⟨fun i => (q i).1, fun i => (q i).2, ⟨fun i hi => ⟨(hq i hi).2.1, (hq i hi).2.2.1, (hq i hi).2.2.2.1, (hq i hi).2.2.2.2⟩, fun i j hi hj e => ?_⟩, fun i hi => ⟨t1 i hi, t2 i hi⟩⟩, ?_, ?_, ?_, ⟨by rw [t50]; exact hz50, by rw [t50]; exact hc50⟩, fun i j hi hj hij h0 h1 => va_Nc.of (hs _ (bs_nc hi hj hij h0 h1)), hov, ⟨b, t100, hX, hb, hA b hb⟩⟩
  · obtain ⟨a, h1, h2⟩ := bs_str htl hs (fun i hi => (hq i hi).1) hm
    exact ⟨a, h1, fun i hi => by rw [t1 i (bs_txt i tx hi), h2 i hi]⟩
  · have e : (q i).1 = (q j).1 := e
    have h1 := (hq i hi).2.2.2.1
    rw [e] at h1
    have e2 : Value.ref (q i).2 = .ref (q j).2 := bs_of h1 (hq j hj).2.2.2.1
    have e3 : (q i).2 = (q j).2 := by injection e2
    have h2 := (hq i hi).2.2.2.2
    rw [e3] at h2
    obtain ⟨l1, l2⟩ := bs_T (bs_ln i hi) (bs_ln j hj) h2 (hq j hj).2.2.2.2
    exact bs_dif i hi j hj l1 (fun k hk => by
      have := l2 k hk
      injection this)
  · exact vx_Zqof (args := args) (htl _ (ab_l3 238 (by decide +kernel))) (htl _ (ab_l1 20 (by decide +kernel))) (hs _ (by decide +kernel)) hA
  · exact vx_Zqof (args := args) (htl _ (ab_l4 0 (by decide +kernel))) (htl _ (ab_l1 20 (by decide +kernel))) (hs _ (by decide +kernel)) hA
  · exact va_Zof (args := args) (htl _ (ab_l2 104 (by decide +kernel))) (htl _ (ab_l1 13 (by decide +kernel))) (va_eqt (hs _ (by decide +kernel))) hA
end
