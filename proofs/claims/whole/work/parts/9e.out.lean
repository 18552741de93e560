section
variable {d m n t : Nat} {c c' : Nat → List Value} {f : Nat → Int32} {z : Nat → Int32} {g w : Nat → Nat} {x y : Int32} {l : List Int32}
/-! the reference's output -/
def cV (c : Nat → List Value) (z : Nat → Int32) (f : Nat → Int32) (l : List Int32) : Nat → List Value := up1 (up1 c 79 (ar 400 (lay f 0 l))) 70 (moL (up1 z 24 (nI l.length)))
theorem cV_M : (hp (cV c z f l))[70]? = some (10, moL (up1 z 24 (nI l.length))) := mo_H (up1_same _ _ _)
theorem cV_79 : (hp (cV c z f l))[79]? = some (100, ar 400 (lay f 0 l)) := hp_is 79 100 ((up1_ne _ _ (by decide)).trans (up1_same _ _ _)) (by decide) (by decide)
theorem cV_71 (h : c 71 = ar 20 (fun i => nI (sv g w i))) : (hp (cV c z f l))[71]? = some (100, ar 20 (fun i => nI (sv g w i))) := hp_is 71 100 ((up1_ne _ _ (by decide)).trans ((up1_ne _ _ (by decide)).trans h)) (by decide) (by decide)
theorem r_says (hl : l.length < 400) : MSE m_X10_says d [.ref 70, .int y] (hp (cV c z f l)) none (hp (cV c z f (l ++ [y]))) := by
  have e1 : (hp (cV c z f l)).set 79 (100, (ar 400 (lay f 0 l)).set (nI l.length).toNatClampNeg (.int y)) = hp (up1 (up1 c 79 (ar 400 (lay f 0 (l ++ [y])))) 70 (moL (up1 z 24 (nI l.length)))) := by
    have e2 := lay_s (f := f) (m := 0) (l := l) (y := y)
    rw [Nat.zero_add] at e2
    rw [cl_nI (by omega), ar_set, hp_set (by decide) (by decide), e2]
    unfold cV
    rw [up1_cm (i := 70) (j := 79) (by decide), up1_up1]
  refine e_X10_says (b_X10_says_0 (x4 := nI l.length) (x9 := nI l.length) cV_M rfl cV_M rfl cV_79 (nI_pos (by omega)) (by rw [cl_nI (by omega), ar_len]; omega) (by rw [e1]; exact mo_H (up1_same _ _ _)) rfl (by rw [e1]; exact mo_H (up1_same _ _ _)) (by show 24 < 27; decide) ⟨rfl, ?_⟩)
  rw [e1, nI_1, show (moL (up1 z 24 (nI l.length))).set 24 (.int (nI (l.length + 1))) = moL (up1 z 24 (nI (l.length + 1))) from rfl, hp_set (by decide) (by decide), up1_up1]
  unfold cV
  rw [List.length_append]; rfl
theorem r_saysWord {t : Nat} (ht : t < 6) (hl : l.length + 10 ≤ 400) : MSE m_X10_saysWord (d + 4) [.ref 70, .retAddr t] (hp (cV c z f l)) none (hp (cV c z f (l ++ ab_byt.getD t []))) := by
  have htl := tl_lt ht
  obtain ⟨ta, tb⟩ := tx_all t ht
  refine e_X10_saysWord (b_X10_saysWord_0 ht ?_)
  have key := up_all (n := tl t) (T := fun i => a_X10_saysWord_2 (d + 4) 0 0 70 t (nI i) (hp (cV c z f (l ++ (ab_byt.getD t []).take i))) (rV (hp (cV c z f (l ++ ab_byt.getD t []))))) (fun i hi ih => ?_) ?_
  · rw [List.take_zero, List.append_nil] at key; exact key
  · obtain ⟨e1, -⟩ := tx_take t ht i hi
    have hlen : ((ab_byt.getD t []).take i).length ≤ 9 := by rw [List.length_take]; omega
    have m1 := r_says (d := d + 3) (c := c) (z := z) (f := f) (l := l ++ (ab_byt.getD t []).take i) (y := tc t i) (by rw [List.length_append]; omega)
    rw [List.append_assoc, ← e1] at m1
    refine b_X10_saysWord_2 ht ht (s_strlen ht) (fun q => absurd q (nI_ge hi (by omega))) (fun _ => b_X10_saysWord_10 ht ht ht (s_charAt ht hi) cV_M m1 ?_)
    rw [nI_1]; exact ih
  · rw [ta]
    exact b_X10_saysWord_2 ht ht (s_strlen ht) (fun _ => b_X10_saysWord_25 ⟨rfl, rfl⟩) (fun q => absurd (nI_le (Nat.le_refl (tl t)) (by omega)) q)
theorem r_saysNumber {v : Nat} (hv : v ≤ 99) (hl : l.length + 3 ≤ 400) : MSE m_X10_saysNumber (d + 1) [.ref 70, .int (nI v)] (hp (cV c z f l)) none (hp (cV c z f (l ++ numL v))) := by
  have hdv : (48 : Int32) + nI v / 10 = nI (48 + v / 10) := by
    rw [show nI v / 10 = nI (v / 10) from pk_div (d := 10) (by omega) (by decide) (by decide)]
    exact nI_add 48 (v / 10)
  have hmd : (48 : Int32) + (nI v - nI v / 10 * 10) = nI (48 + v % 10) := by
    rw [show nI v - nI v / 10 * 10 = nI (v % 10) from pk_rem (d := 10) (by omega) (by decide) (by decide)]
    exact nI_add 48 (v % 10)
  have m0 := r_says (d := d) (c := c) (z := z) (f := f) (l := l) (y := 32) (by omega)
  refine e_X10_saysNumber (b_X10_saysNumber_0 cV_M m0 (fun q => ?_) (fun q => ?_))
  · have h9 : ¬ 9 < v := fun e => absurd q (nI_ge (a := 9) (b := v) e (by omega))
    have m1 := r_says (d := d) (c := c) (z := z) (f := f) (l := l ++ [32]) (y := nI (48 + v % 10)) (by rw [List.length_append]; show l.length + 1 < 400; omega)
    refine b_X10_saysNumber_23 (by decide) cV_M (by rw [hmd]; exact m1) ⟨rfl, ?_⟩
    unfold numL
    rw [if_neg h9, List.append_assoc]; rfl
  · have h9 : 9 < v := by
      rcases Nat.lt_or_ge 9 v with e | e
      · exact e
      · exact absurd (nI_le (a := v) (b := 9) e (by decide)) q
    have m1 := r_says (d := d) (c := c) (z := z) (f := f) (l := l ++ [32]) (y := nI (48 + v / 10)) (by rw [List.length_append]; show l.length + 1 < 400; omega)
    have m2 := r_says (d := d) (c := c) (z := z) (f := f) (l := l ++ [32] ++ [nI (48 + v / 10)]) (y := nI (48 + v % 10)) (by rw [List.length_append, List.length_append]; show l.length + 1 + 1 < 400; omega)
    refine b_X10_saysNumber_12 (by decide) cV_M (by rw [hdv]; exact m1) (b_X10_saysNumber_23 (by decide) cV_M (by rw [hmd]; exact m2) ⟨rfl, ?_⟩)
    unfold numL
    rw [if_pos h9, List.append_assoc, List.append_assoc]
/-- how long the text is -/
theorem st_len {t v : Nat} {o : Option Nat} (ht : t < 6) : (stL t v o).length ≤ 17 := by
  obtain ⟨-, tb⟩ := tx_all t ht
  have h1 := tl_lt ht
  have h2 := numL_le (v := v)
  unfold stL
  rw [List.length_append, List.length_append, List.length_append, tb]
  cases o with
  | none =>
    show tl t + ((numL v).length + (0 + 1)) ≤ 17
    omega
  | some u =>
    have h3 := numL_le (v := u)
    show tl t + ((numL v).length + ((numL u).length + 1)) ≤ 17
    omega
theorem num1 {v : Nat} (h : v < 10) : (numL v).length = 2 := by
  unfold numL
  rw [if_neg (by omega)]; rfl
theorem edge_len {a b : Nat} (ha : a < 10) (hb : b < 10) : (stL 1 a (some b)).length = 9 := by
  unfold stL
  rw [List.length_append, List.length_append, List.length_append]
  show (ab_byt.getD 1 []).length + ((numL a).length + ((numL b).length + 1)) = 9
  rw [num1 ha, num1 hb]
  decide
theorem wei_len {a b : Nat} (ha : a < 10) : (stL 5 a (some b)).length ≤ 12 := by
  unfold stL
  rw [List.length_append, List.length_append, List.length_append]
  show (ab_byt.getD 5 []).length + ((numL a).length + ((numL b).length + 1)) ≤ 12
  have := numL_le (v := b)
  rw [num1 ha, show (ab_byt.getD 5 []).length = 6 by decide]
  omega
theorem weB_len {a : Nat} (ha : a < 10) : ∀ k, a + k < 10 → (weB g a k).length ≤ 9 * cnU (fun i => (g a).testBit i) (a + 1 + k)
  | 0, _ => Nat.zero_le _
  | k + 1, hk => by
    have ih := weB_len ha k (by omega)
    show (weB g a k ++ _).length ≤ 9 * cnU (fun i => (g a).testBit i) (a + 1 + k + 1)
    rw [List.length_append, cnU_s]
    by_cases hb : (g a).testBit (a + 1 + k) = true
    · rw [if_pos hb, if_pos hb, edge_len ha (by omega)]
      omega
    · rw [if_neg hb, if_neg hb]
      exact ih
theorem weA_len (G : GR g n) (hn : n ≤ 10) : ∀ k, k ≤ n → (weA g n k).length ≤ 9 * tsU (fun v => pc (g v)) k
  | 0, _ => Nat.zero_le _
  | k + 1, hk => by
    have ih := weA_len G hn k (by omega)
    have h1 := weB_len (g := g) (a := k) (by omega) (n - (k + 1)) (by omega)
    rw [show k + 1 + (n - (k + 1)) = n by omega, ← pc_cnUn (G.1 k) hn] at h1
    show (weA g n k ++ weB g k (n - (k + 1))).length ≤ 9 * (tsU (fun v => pc (g v)) k + pc (g k))
    rw [List.length_append]
    omega
theorem wwA_len : ∀ k, k ≤ 10 → (wwA w k).length ≤ 12 * k
  | 0, _ => Nat.zero_le _
  | k + 1, hk => by
    have ih := wwA_len k (by omega)
    have h1 := wei_len (a := k) (b := w k) (by omega)
    show (wwA w k ++ _).length ≤ _
    rw [List.length_append]
    split
    · show _ + 0 ≤ _; omega
    · omega
theorem wt_len (F : FOR g n) (hn : n ≤ 10) : (wtL g w n).length ≤ 383 := by
  have h1 := st_len (t := 0) (v := n) (o := none) (by decide)
  have h2 := weA_len F.1 hn n (Nat.le_refl n)
  have h3 := ends_roots F hn
  have h4 := wwA_len (w := w) n hn
  unfold wtL
  rw [List.length_append, List.length_append]
  omega
/-- what a question that writes changes -/
def OQ (c c' : Nat → List Value) (z : Nat → Int32) (f : Nat → Int32) (l : List Int32) : Prop := ∃ c1, QF c c1 0 ∧ (∃ z1, c1 70 = moL z1 ∧ c' = cV c1 z1 f l)
theorem q_writeText (R : RF c n g w) (hf : c 79 = ar 400 f) : ∃ c' z1, MSE m_X10_writeText (d + 5) [.ref 70] (hp c) (some (.int (nI (wtL g w n).length))) (hp (cV c' z1 f (wtL g w n))) ∧ QF c c' 0 ∧ c' 70 = moL z1 := by
  obtain ⟨z, hz, h9, h6⟩ := R.Z
  have hn := R.le
  have h1 := R.one
  have Q := QF.th (t := 0) R.S hz
  have hlen := wt_len (w := w) R.F hn
  obtain ⟨z1, ez1⟩ : ∃ z1, z1 = up1 z 0 (nI 0) := ⟨_, rfl⟩
  obtain ⟨c1, ec1⟩ : ∃ c1, c1 = cT c z (nI 0) := ⟨_, rfl⟩
  have hz1 : c1 70 = moL z1 := by rw [ec1, ez1]; exact up1_same _ _ _
  have h71 : c1 71 = ar 20 (fun i => nI (sv g w i)) := by rw [ec1]; exact (cT_ne (by decide)).trans R.row
  have h79 : c1 79 = ar 400 f := by rw [ec1]; exact (cT_ne (by decide)).trans hf
  rw [← ec1] at Q
  have hT : (stL 0 n none).length + (weA g n n).length + (wwA w n).length ≤ 383 := by
    have := hlen
    unfold wtL at this
    rw [List.length_append, List.length_append] at this
    exact this
  have s0 : (hp c).set 70 (10, (moL z).set 0 (.int 0)) = hp c1 := by rw [ec1]; exact th0
  have s1 : (hp c1).set 70 (10, (moL z1).set 24 (.int 0)) = hp (cV c1 z1 f []) := by
    unfold cV
    rw [lay_nil, show up1 c1 79 (ar 400 f) = c1 from up1_id h79]
    exact hp_set (by decide) (by decide)
  have f6 : ∀ l : List Int32, (moL (up1 z1 24 (nI l.length)))[6]? = some (.int (nI n)) := fun l => by
    have : (moL (up1 z1 24 (nI l.length)))[6]? = some (.int (z1 6)) := rfl
    rw [this, ez1]
    show some (Value.int (z 6)) = _
    rw [h6]
  have n1 := numL_le (v := n)
  have t0 : (ab_byt.getD 0 []).length = 8 := by decide
  have a1 := r_saysWord (d := d) (c := c1) (z := z1) (f := f) (l := []) (t := 0) (by decide) (by decide)
  have a2 := r_saysNumber (d := d + 3) (c := c1) (z := z1) (f := f) (l := [] ++ ab_byt.getD 0 []) (v := n) (by omega) (by rw [List.length_append, t0]; show 0 + 8 + 3 ≤ 400; decide)
  have a3 := r_says (d := d + 4) (c := c1) (z := z1) (f := f) (l := [] ++ ab_byt.getD 0 [] ++ numL n) (y := 59) (by rw [List.length_append, List.length_append, t0]; show 0 + 8 + _ < 400; omega)
  have e3 : [] ++ ab_byt.getD 0 [] ++ numL n ++ [59] = stL 0 n none := by
    unfold stL
    rw [List.nil_append, List.append_assoc]; rfl
  rw [e3] at a3
  refine ⟨c1, z1, e_X10_writeText (b_X10_writeText_0 (mo_H hz) (by show 0 < 27; decide) (by rw [s0]; exact mo_H hz1) (by show 24 < 27; decide) (by rw [s0, s1]; exact cV_M) (by rw [s0, s1]; exact a1) cV_M (f6 _) cV_M a2 cV_M a3 ?_), Q, hz1⟩
  have hg10 := R.g10
  have st : ∀ (L : List Int32) (t v u : Nat), t < 6 → v ≤ 99 → u ≤ 99 → L.length + 17 ≤ 400 → ∃ b1 b2 b3, MSE m_X10_saysWord (d + 4) [.ref 70, .retAddr t] (hp (cV c1 z1 f L)) none (hp (cV c1 z1 f b1)) ∧ MSE m_X10_saysNumber (d + 4) [.ref 70, .int (nI v)] (hp (cV c1 z1 f b1)) none (hp (cV c1 z1 f b2)) ∧ MSE m_X10_saysNumber (d + 4) [.ref 70, .int (nI u)] (hp (cV c1 z1 f b2)) none (hp (cV c1 z1 f b3)) ∧ MSE m_X10_says (d + 4) [.ref 70, .int 59] (hp (cV c1 z1 f b3)) none (hp (cV c1 z1 f (L ++ stL t v (some u)))) := fun L t v u ht hv hu hL => by
    obtain ⟨-, tb⟩ := tx_all t ht
    have htl := tl_lt ht
    have q1 := numL_le (v := v)
    have q2 := numL_le (v := u)
    have k4 := r_says (d := d + 4) (c := c1) (z := z1) (f := f) (l := L ++ ab_byt.getD t [] ++ numL v ++ numL u) (y := 59) (by rw [List.length_append, List.length_append, List.length_append]; omega)
    have e : L ++ ab_byt.getD t [] ++ numL v ++ numL u ++ [59] = L ++ stL t v (some u) := by
      unfold stL
      rw [List.append_assoc, List.append_assoc, List.append_assoc]
    rw [e] at k4
    exact ⟨_, _, _, r_saysWord ht (by omega), r_saysNumber (d := d + 3) hv (by rw [List.length_append]; omega), r_saysNumber (d := d + 3) hu (by rw [List.length_append, List.length_append]; omega), k4⟩
  refine up_all (n := n) (T := fun k => a_X10_writeText_32 (d + 5) 0 0 70 (nI k) (hp (cV c1 z1 f (stL 0 n none ++ weA g n k))) (rI (nI (wtL g w n).length) (hp (cV c1 z1 f (wtL g w n))))) (fun k hk ih => ?_) ?_ |> fun key => by
    have key : a_X10_writeText_32 (d + 5) 0 0 70 (nI 0) (hp (cV c1 z1 f (stL 0 n none ++ []))) (rI (nI (wtL g w n).length) (hp (cV c1 z1 f (wtL g w n)))) := key
    rw [List.append_nil] at key; exact key
  · refine b_X10_writeText_32 cV_M (f6 _) (fun q => absurd q (nI_ge hk (by omega))) (fun _ => b_X10_writeText_40 ?_)
    rw [nI_1]
    have hwa := weA_le (g := g) (n := n) (n - (k + 1)) (k + 1)
    rw [show k + 1 + (n - (k + 1)) = n by omega] at hwa
    have eA : (weA g n (k + 1)).length = (weA g n k).length + (weB g k (n - (k + 1))).length := List.length_append
    have key := up_all (n := n - (k + 1)) (T := fun j => a_X10_writeText_44 (d + 5) 0 0 70 (nI k) (nI (k + 1 + j)) (hp (cV c1 z1 f (stL 0 n none ++ weA g n k ++ weB g k j))) (rI (nI (wtL g w n).length) (hp (cV c1 z1 f (wtL g w n))))) (fun j hj ih2 => ?_) ?_
    · have key : a_X10_writeText_44 (d + 5) 0 0 70 (nI k) (nI (k + 1)) (hp (cV c1 z1 f (stL 0 n none ++ weA g n k ++ []))) (rI (nI (wtL g w n).length) (hp (cV c1 z1 f (wtL g w n)))) := key
      rw [List.append_nil] at key; exact key
    · have hwb := weB_le (g := g) (a := k) (n - (k + 1) - j) j
      rw [show j + (n - (k + 1) - j) = n - (k + 1) by omega] at hwb
      have ih2 : a_X10_writeText_44 (d + 5) 0 0 70 (nI k) (nI (k + 1 + j + 1)) (hp (cV c1 z1 f (stL 0 n none ++ weA g n k ++ (weB g k j ++ (if (g k).testBit (k + 1 + j) = true then stL 1 k (some (k + 1 + j)) else []))))) (rI (nI (wtL g w n).length) (hp (cV c1 z1 f (wtL g w n)))) := ih2
      have hgk := hg10 k
      refine b_X10_writeText_44 cV_M (f6 _) (fun q => absurd q (nI_ge (show k + 1 + j < n by omega) (by omega))) (fun _ => b_X10_writeText_52 (x4 := nI (g k)) cV_M rfl (cV_71 h71) (nI_pos (by omega)) (by rw [at20 (by omega), sv_lo (by omega)]) (r_has (by omega) (by omega)) (fun q => ?_) (fun q => b_X10_writeText_65 (b_X10_writeText_90 ?_)))
      · have hb := tb_of q
        rw [if_pos hb, ← List.append_assoc] at ih2
        obtain ⟨b1, b2, b3, k1, k2, k3, k4⟩ := st (stL 0 n none ++ weA g n k ++ weB g k j) 1 k (k + 1 + j) (by decide) (by omega) (by omega) (by rw [List.length_append, List.length_append]; omega)
        refine b_X10_writeText_68 cV_M k1 cV_M k2 cV_M k3 cV_M k4 (b_X10_writeText_90 ?_)
        rw [nI_1]; exact ih2
      · have hb := h01.mp q
        rw [if_neg (by rw [hb]; decide), List.append_nil] at ih2
        rw [nI_1]; exact ih2
    · rw [show k + 1 + (n - (k + 1)) = n by omega]
      refine b_X10_writeText_44 cV_M (f6 _) (fun _ => b_X10_writeText_96 ?_) (fun q => absurd (nI_le (Nat.le_refl n) (by omega)) q)
      rw [nI_1]
      have ih : a_X10_writeText_32 (d + 5) 0 0 70 (nI (k + 1)) (hp (cV c1 z1 f (stL 0 n none ++ (weA g n k ++ weB g k (n - (k + 1)))))) (rI (nI (wtL g w n).length) (hp (cV c1 z1 f (wtL g w n)))) := ih
      rw [← List.append_assoc] at ih
      exact ih
  · refine b_X10_writeText_32 cV_M (f6 _) (fun _ => b_X10_writeText_102 ?_) (fun q => absurd (nI_le (Nat.le_refl n) (by omega)) q)
    have key := up_all (n := n) (T := fun k => a_X10_writeText_104 (d + 5) 0 0 70 (nI k) (hp (cV c1 z1 f (stL 0 n none ++ weA g n n ++ wwA w k))) (rI (nI (wtL g w n).length) (hp (cV c1 z1 f (wtL g w n))))) (fun k hk ih => ?_) ?_
    · have key : a_X10_writeText_104 (d + 5) 0 0 70 (nI 0) (hp (cV c1 z1 f (stL 0 n none ++ weA g n n ++ []))) (rI (nI (wtL g w n).length) (hp (cV c1 z1 f (wtL g w n)))) := key
      rw [List.append_nil] at key; exact key
    · have hww := wwA_le (w := w) (n - (k + 1)) (k + 1)
      rw [show k + 1 + (n - (k + 1)) = n by omega] at hww
      have hwk := R.w99 k
      have e10 : (10 : Int32) + nI k = nI (10 + k) := nI_add 10 k
      have hat : (ar 20 (fun i => nI (sv g w i)))[(10 + nI k : Int32).toNatClampNeg]? = some (.int (nI (w k))) := by rw [e10, at20 (by omega), sv_hi]
      have ih : a_X10_writeText_104 (d + 5) 0 0 70 (nI (k + 1)) (hp (cV c1 z1 f (stL 0 n none ++ weA g n n ++ (wwA w k ++ (if w k = 1 then [] else stL 5 k (some (w k))))))) (rI (nI (wtL g w n).length) (hp (cV c1 z1 f (wtL g w n)))) := ih
      refine b_X10_writeText_104 cV_M (f6 _) (fun q => absurd q (nI_ge hk (by omega))) (fun _ => b_X10_writeText_112 cV_M rfl (cV_71 h71) (by rw [e10]; exact nI_pos (by omega)) hat (fun q => ?_) (fun q => b_X10_writeText_125 (b_X10_writeText_158 ?_)))
      · have hne : ¬ w k = 1 := fun e => q (by rw [e]; rfl)
        have hwl : (wwA w k).length + 0 ≤ (wwA w (k + 1)).length := by
          show _ ≤ (wwA w k ++ _).length
          rw [List.length_append]; omega
        rw [if_neg hne, ← List.append_assoc] at ih
        obtain ⟨b1, b2, b3, k1, k2, k3, k4⟩ := st (stL 0 n none ++ weA g n n ++ wwA w k) 5 k (w k) (by decide) (by omega) (by omega) (by rw [List.length_append, List.length_append]; omega)
        refine b_X10_writeText_128 cV_M k1 cV_M k2 cV_M rfl (cV_71 h71) (by rw [e10]; exact nI_pos (by omega)) hat cV_M k3 cV_M k4 (b_X10_writeText_158 ?_)
        rw [nI_1]; exact ih
      · have he : w k = 1 := (i_eq (b := 1) (by omega) (by decide)).mp q
        rw [if_pos he, List.append_nil] at ih
        rw [nI_1]; exact ih
    · exact b_X10_writeText_104 cV_M (f6 _) (fun _ => b_X10_writeText_164 (x2 := nI (wtL g w n).length) cV_M rfl ⟨rfl, rfl⟩) (fun q => absurd (nI_le (Nat.le_refl n) (by omega)) q)
end
