section
variable {d n t ch kp : Nat} {c c' c'' : Nat → List Value} {g w g1 w1 : Nat → Nat} {z : Nat → Int32} {x y : Int32} {a : Nat → Int32} {Hg Hw Sg Sw : Nat → Nat → Nat}
/-! cut, regraft, setWeight, swap -/
theorem ct_pre (R : RF c n g w) (X : HF c ch kp Hg Hw Sg Sw a) (hz : c 70 = moL z) {u v : Nat} (hu : u < n) (hv : v < n) {i : Nat} (hi : i = if (g u).testBit v = true then 1 else 6) {P : ab_O → ab_H → Prop} (K1 : (g u).testBit v = true → SW none m_X10_cut (d + 3) 0 0 67 [some (.ref 70), some (.int (nI u)), some (.int (nI v)), none] [] (hp (up1 (cT c z (nI 0)) 75 (ar 10 (up1 a i (a i + 1))))) P) (K0 : (g u).testBit v = false → SW none m_X10_cut (d + 3) 0 0 65 [none, none, none, none] [] (hp (up1 (cT c z (nI 0)) 75 (ar 10 (up1 a i (a i + 1))))) P) : MS m_X10_cut (d + 3) 0 0 [.ref 70, .int (nI u), .int (nI v)] (hp c) P := by
  have hn := R.le
  have Q := QF.th (t := 0) R.S hz
  have R2 := R.q Q
  have X2 := X.q Q
  obtain ⟨fs, H⟩ := R.M
  have hgu := R.g10 u
  have hi10 : i < 10 := by rw [hi]; split <;> decide
  have st : SW none m_X10_cut (d + 3) 0 0 56 [some (.ref 70), some (.int (nI u)), some (.int (nI v)), some (.int (nI (if (g u).testBit v = true then 1 else 0)))] [.int (nI i), .ref 75] (hp (cT c z (nI 0))) P := by
    refine b_X10_cut_56 X2.A (nI_pos (by omega)) (acc_at hi10) X2.A (nI_pos (by omega)) (acc_ln hi10) (fun q => ?_) (fun q => ?_)
    · rw [acc_set hi10, hp_set (by decide) (by decide)]; exact K1 (tb_of q)
    · rw [acc_set hi10, hp_set (by decide) (by decide)]; exact K0 (h01.mp q)
  refine e_X10_cut (b_X10_cut_0 H (r_isVertex (d := d + 1) R) (fun q => absurd q (nv1 (isV_t hu))) (fun _ => b_X10_cut_9 H (r_isVertex (d := d + 1) R) (fun _ => b_X10_cut_21 (b_X10_cut_22 H (r_fails0 hz) (fun _ => b_X10_cut_31 cT_H rfl R2.rowH (nI_pos (by omega)) (by rw [at20 (by omega), sv_lo (by omega)]) (r_has (by omega) (by omega)) cT_H rfl (fun q => b_X10_cut_54 ?_) (fun q => b_X10_cut_50 ?_)) (fun q => absurd rfl q))) (fun q => absurd q (nv1 (isV_t hv)))))
  · rw [if_neg (by rw [h01.mp q]; decide)] at hi
    subst hi; exact st
  · rw [if_pos (tb_of q)] at hi
    subst hi; exact st
theorem q_cut0 (R : RF c n g w) (X : HF c ch kp Hg Hw Sg Sw a) {u v : Nat} (hu : u < n) (hv : v < n) (h1 : (g u).testBit v = false) : ∃ c', MSE m_X10_cut (d + 3) [.ref 70, .int (nI u), .int (nI v)] (hp c) (some (.int 0)) (hp c') ∧ RF c' n g w ∧ HF c' ch kp Hg Hw Sg Sw (up1 a 6 (a 6 + 1)) ∧ CF c c' 0 := by
  obtain ⟨z, hz, h2, h3⟩ := R.Z
  have Q := QF.th (t := 0) R.S hz
  exact ⟨_, ct_pre R X hz hu hv (i := 6) (by rw [if_neg (by rw [h1]; decide)]) (fun q => by rw [h1] at q; cases q) (fun _ => b_X10_cut_65 ⟨rfl, rfl⟩), (R.q Q).up (by decide), (X.q Q).cnt, Q.C.k (KF.up (by decide))⟩
theorem q_cut (R : RF c n g w) (X : HF c ch kp Hg Hw Sg Sw a) {u v : Nat} (hu : u < n) (hv : v < n) (h1 : (g u).testBit v = true) : ∃ c', MSE m_X10_cut (d + 3) [.ref 70, .int (nI u), .int (nI v)] (hp c) (some (.int 1)) (hp c') ∧ RF c' n (pt g u v) w ∧ HF c' (min (ch + 1) 8) kp (shH Hg g) (shH Hw w) Sg Sw (up1 a 1 (a 1 + 1)) ∧ CF c c' 0 := by
  obtain ⟨z, hz, h2, h3⟩ := R.Z
  have hn := R.le
  have Q := QF.th (t := 0) R.S hz
  have R2 := (R.q Q).up (i := 75) (v := ar 10 (up1 a 1 (a 1 + 1))) (by decide)
  have X2 := (X.q Q).cnt (a' := up1 a 1 (a 1 + 1))
  obtain ⟨fs2, H2⟩ := R2.M
  obtain ⟨c3, m3, R3, X3, K3⟩ := r_remembers (d := d + 2) R2 X2
  obtain ⟨z3, hz3, -⟩ := R3.Z
  have mj := r_parts (d := d + 2) (u := u) (v := v) R3.rowH (by omega) (by omega)
  rw [hp_set (by decide) (by decide)] at mj
  exact ⟨_, ct_pre R X hz hu hv (i := 1) (by rw [if_pos h1]) (fun _ => b_X10_cut_67 H2 m3 (mo_H hz3) rfl mj ⟨rfl, rfl⟩) (fun q => by rw [h1] at q; cases q), R3.now R.F.ptF R.w99, X3.up (by decide), (((Q.C.k (KF.up (by decide))).k K3).k KF.nowK)⟩
def wz (g : Nat → Nat) (n u v p : Nat) : Nat := if (g u).testBit v = true then (if (rc g n (df (al n) (2 ^ v)) u).testBit p = true then 2 else 0) else 1
theorem rg_pre (R : RF c n g w) (hz : c 70 = moL z) {u v p : Nat} (hu : u < n) (hv : v < n) (hp' : p < n) {P : ab_O → ab_H → Prop} (K1 : wz g n u v p = 1 → SW none m_X10_regraft (d + 4) 0 0 52 [some (.ref 70), none, none, none] [] (hp (cT c z (nI 0))) P) (K2 : wz g n u v p = 2 → SW none m_X10_regraft (d + 4) 0 0 73 [some (.ref 70), none, none, none] [] (hp (cT c z (nI 0))) P) (K0 : wz g n u v p = 0 → SW none m_X10_regraft (d + 4) 0 0 81 [some (.ref 70), some (.int (nI u)), some (.int (nI v)), some (.int (nI p))] [] (hp (cT c z (nI 0))) P) : MS m_X10_regraft (d + 4) 0 0 [.ref 70, .int (nI u), .int (nI v), .int (nI p)] (hp c) P := by
  have hn := R.le
  have Q := QF.th (t := 0) R.S hz
  have R2 := R.q Q
  obtain ⟨fs, H⟩ := R.M
  have hgu := R.g10 u
  have hmr : mr g n (some v) u < 1024 := mr_lt R.g10 (by omega)
  have mr' := r_reach (d := d + 2) R2.V (v := u) (o := some v) (by omega) (fun b e => by cases e; omega) (R2.K.1 _ _ (by omega))
  refine e_X10_regraft (b_X10_regraft_0 H (r_isVertex (d := d + 2) R) (fun q => absurd q (nv1 (isV_t hu))) (fun _ => b_X10_regraft_9 H (r_isVertex (d := d + 2) R) (fun q => absurd q (nv1 (isV_t hv))) (fun _ => b_X10_regraft_17 H (r_isVertex (d := d + 2) R) (fun _ => b_X10_regraft_29 (b_X10_regraft_30 H (r_fails0 hz) (fun _ => b_X10_regraft_39 cT_H rfl R2.rowH (nI_pos (by omega)) (by rw [at20 (by omega), sv_lo (by omega)]) (r_has (by omega) (by omega)) (fun q => b_X10_regraft_60 cT_H mr' (r_has (by omega) (by omega)) (fun q2 => K0 ?_) (fun q2 => K2 ?_)) (fun q => K1 ?_)) (fun q => absurd rfl q))) (fun q => absurd q (nv1 (isV_t hp'))))))
  · have h := h01.mp q2
    have hb := tb_of q
    rw [mr_part R.F.1 hn hu (R.F.1.ne hb)] at h
    unfold wz; rw [if_pos hb, if_neg (by rw [h]; decide)]
  · have h := tb_of q2
    have hb := tb_of q
    rw [mr_part R.F.1 hn hu (R.F.1.ne hb)] at h
    unfold wz; rw [if_pos hb, if_pos h]
  · unfold wz; rw [if_neg (by rw [h01.mp q]; decide)]
theorem q_regraft0 (R : RF c n g w) (X : HF c ch kp Hg Hw Sg Sw a) {u v p r : Nat} (hu : u < n) (hv : v < n) (hp' : p < n) (hr : wz g n u v p = r) (h0 : r ≠ 0) : ∃ c', MSE m_X10_regraft (d + 4) [.ref 70, .int (nI u), .int (nI v), .int (nI p)] (hp c) (some (.int (nI r))) (hp c') ∧ RF c' n g w ∧ HF c' ch kp Hg Hw Sg Sw (up1 a 7 (a 7 + 1)) ∧ CF c c' 0 := by
  obtain ⟨z, hz, h2, h3⟩ := R.Z
  have Q := QF.th (t := 0) R.S hz
  have X2 := X.q Q
  exact ⟨_, (rg_pre R hz hu hv hp' (fun e => b_X10_regraft_52 cT_H (r_counts X2 (i := 7) (by decide)) ⟨by rw [← hr, e]; rfl, rfl⟩) (fun e => b_X10_regraft_73 cT_H (r_counts X2 (i := 7) (by decide)) ⟨by rw [← hr, e]; rfl, rfl⟩) (fun e => absurd (hr.symm.trans e) h0)), (R.q Q).up (by decide), X2.cnt, Q.C.k (KF.up (by decide))⟩
theorem q_regraft (R : RF c n g w) (X : HF c ch kp Hg Hw Sg Sw a) {u v p : Nat} (hu : u < n) (hv : v < n) (hp' : p < n) (hr : wz g n u v p = 0) (F : FOR (jn (pt g u v) u p) n) : ∃ c', MSE m_X10_regraft (d + 4) [.ref 70, .int (nI u), .int (nI v), .int (nI p)] (hp c) (some (.int 0)) (hp c') ∧ RF c' n (jn (pt g u v) u p) w ∧ HF c' (min (ch + 1) 8) kp (shH Hg g) (shH Hw w) Sg Sw (up1 a 2 (a 2 + 1)) ∧ CF c c' 0 := by
  obtain ⟨z, hz, h2, h3⟩ := R.Z
  have hn := R.le
  have Q := QF.th (t := 0) R.S hz
  have R2 := R.q Q
  have X2 := X.q Q
  obtain ⟨c3, m3, R3, X3, K3⟩ := r_remembers (d := d + 3) R2 X2
  obtain ⟨z3, hz3, -⟩ := R3.Z
  have m4 := r_parts (d := d + 3) (u := u) (v := v) R3.rowH (by omega) (by omega)
  rw [hp_set (by decide) (by decide)] at m4
  have R4 : RF (cN c3 (pt g u v) w) n (pt g u v) w := R3.now R.F.ptF R.w99
  have X4 : HF (cN c3 (pt g u v) w) (min (ch + 1) 8) kp (shH Hg g) (shH Hw w) Sg Sw a := X3.up (by decide)
  have m5 := r_joins (d := d + 3) (u := u) (v := p) R4.rowH (by omega) (by omega)
  rw [hp_set (by decide) (by decide)] at m5
  have R5 : RF (cN (cN c3 (pt g u v) w) (jn (pt g u v) u p) w) n (jn (pt g u v) u p) w := R4.now F R.w99
  have X5 : HF (cN (cN c3 (pt g u v) w) (jn (pt g u v) u p) w) (min (ch + 1) 8) kp (shH Hg g) (shH Hw w) Sg Sw a := X4.up (by decide)
  obtain ⟨fs4, H4⟩ := R4.M
  obtain ⟨z4, hz4, -⟩ := R4.Z
  obtain ⟨fs5, H5⟩ := R5.M
  exact ⟨_, (rg_pre R hz hu hv hp' (fun e => absurd (hr.symm.trans e) (by decide)) (fun e => absurd (hr.symm.trans e) (by decide)) (fun _ => b_X10_regraft_81 cT_H m3 (mo_H hz3) rfl m4 (mo_H hz4) rfl m5 H5 (r_counts X5 (i := 2) (by decide)) ⟨rfl, rfl⟩)), R5.up (by decide), X5.cnt, (((Q.C.k K3).k KF.nowK).k KF.nowK).k (KF.up (by decide))⟩
theorem sv_upw {u b : Nat} : up1 (sv g w) (10 + u) b = sv g (up1 w u b) := funext fun i => by
  by_cases e : i = 10 + u
  · subst e
    rw [up1_same, sv_hi, up1_same]
  · rw [up1_ne _ _ e]
    unfold sv
    by_cases h : i < 10
    · rw [if_pos h, if_pos h]
    · rw [if_neg h, if_neg h, up1_ne _ _ (by omega)]
theorem q_setWeight (R : RF c n g w) (X : HF c ch kp Hg Hw Sg Sw a) {u b : Nat} (hu : u < n) (hb : b ≤ 99) : ∃ c', MSE m_X10_setWeight (d + 3) [.ref 70, .int (nI u), .int (nI b)] (hp c) (some (.int (nI (w u)))) (hp c') ∧ RF c' n g (up1 w u b) ∧ HF c' (min (ch + 1) 8) kp (shH Hg g) (shH Hw w) Sg Sw a ∧ CF c c' 0 := by
  obtain ⟨z, hz, h2, h3⟩ := R.Z
  have hn := R.le
  have Q := QF.th (t := 0) R.S hz
  have R2 := R.q Q
  have X2 := X.q Q
  obtain ⟨fs, H⟩ := R.M
  obtain ⟨c3, m3, R3, X3, K3⟩ := r_remembers (d := d + 2) R2 X2
  obtain ⟨z3, hz3, -⟩ := R3.Z
  have e1 : (10 : Int32) + nI u = nI (10 + u) := nI_add 10 u
  refine ⟨_, e_X10_setWeight (b_X10_setWeight_0 H (r_isVertex (d := d + 1) R) (fun q => b_X10_setWeight_15 (b_X10_setWeight_16 (fun q2 => absurd q2 (nv1 (isV_t hu))) (fun q2 => b_X10_setWeight_20 (isIn_1 (a := 0) (m := 99) (by decide) (by decide) (Nat.zero_le _) hb) (fun _ => b_X10_setWeight_34 (b_X10_setWeight_35 H (r_fails0 hz) (fun _ => b_X10_setWeight_43 (x8 := nI (w u)) cT_H m3 (mo_H hz3) rfl R3.rowH (by rw [e1]; exact nI_pos (by omega)) (by rw [e1, at20 (by omega), sv_hi]) (mo_H hz3) rfl R3.rowH (by rw [e1]; exact nI_pos (by omega)) (by rw [e1]; exact ln20 (by omega)) ⟨rfl, ?_⟩) (fun q => absurd rfl q))) (fun q => absurd q (by decide))))) (fun q => absurd q (nv1 (isV_t hu)))), R3.now (g1 := g) (w1 := up1 w u b) R.F (fun i => ?_), X3.up (by decide), (Q.C.k K3).k KF.nowK⟩
  · rw [e1, cl_nI (by omega), ar_upN, sv_upw, hp_set (by decide) (by decide)]; rfl
  · by_cases e : i = u
    · rw [e, up1_same]; exact hb
    · rw [up1_ne _ _ e]; exact R.w99 i
theorem r_exchanged {h : ab_H} {v p q : Nat} (hv : v < 2147483648) (hp' : p < 2147483648) (hq : q < 2147483648) : MSE m_X10_exchanged d [.int (nI v), .int (nI p), .int (nI q)] h (some (.int (nI (tr p q v)))) h := by
  refine e_X10_exchanged (b_X10_exchanged_0 (fun h1 => b_X10_exchanged_9 (fun h2 => b_X10_exchanged_18 (b_X10_exchanged_19 ⟨?_, rfl⟩)) (fun h2 => b_X10_exchanged_14 (b_X10_exchanged_19 ⟨?_, rfl⟩))) (fun h1 => b_X10_exchanged_5 (b_X10_exchanged_19 ⟨?_, rfl⟩)))
  · unfold tr; rw [if_neg (fun e => h1 (by rw [e])), if_neg (fun e => h2 (by rw [e]))]
  · unfold tr; rw [if_neg (fun e => h1 (by rw [e])), if_pos ((i_eq hv hq).mp h2)]
  · unfold tr; rw [if_pos ((i_eq hv hp').mp h1)]
def don (k l p q : Nat) : Prop := (q < p ∧ (p < k ∨ (p = k ∧ q < l))) ∨ (p < q ∧ (q < k ∨ (q = k ∧ p < l)))
def swp (g : Nat → Nat) (p q k l : Nat) (gg : Nat → Nat) : Prop := ∀ x y, (gg x).testBit y = true ↔ (don k l (tr p q x) (tr p q y) ∧ (g (tr p q x)).testBit (tr p q y) = true)
theorem trtr {p q x : Nat} : tr p q (tr p q x) = x := by
  unfold tr
  by_cases h1 : x = p
  · subst h1
    rw [if_pos rfl]
    by_cases h2 : q = x
    · rw [if_pos h2, h2]
    · rw [if_neg h2, if_pos rfl]
  · rw [if_neg h1]
    by_cases h2 : x = q
    · rw [if_pos h2, if_pos rfl, h2]
    · rw [if_neg h2, if_neg h1, if_neg h2]
theorem tr_eq {p q x k : Nat} : x = tr p q k ↔ tr p q x = k := ⟨fun h => by rw [h, trtr], fun h => by rw [← h, trtr]⟩
theorem swp_1 {p q k l : Nat} {gg : Nat → Nat} (G : GR g n) (hl : l < k) (hb : (g k).testBit l = true) (h : swp g p q k l gg) : swp g p q k (l + 1) (jn gg (tr p q k) (tr p q l)) := fun x y => by
  rw [jn_bit, h x y, tr_eq, tr_eq, tr_eq, tr_eq]
  obtain ⟨a, ha⟩ : ∃ a, a = tr p q x := ⟨_, rfl⟩
  obtain ⟨b, hb'⟩ : ∃ b, b = tr p q y := ⟨_, rfl⟩
  rw [← ha, ← hb']
  have key : don k (l + 1) a b ↔ don k l a b ∨ (a = k ∧ b = l) ∨ (a = l ∧ b = k) := by unfold don; omega
  rw [key]
  constructor
  · rintro (h1 | ⟨h1, h2⟩ | ⟨h1, h2⟩)
    · exact ⟨Or.inl h1.1, h1.2⟩
    · subst h1; subst h2; exact ⟨Or.inr (Or.inl ⟨rfl, rfl⟩), hb⟩
    · subst h1; subst h2; exact ⟨Or.inr (Or.inr ⟨rfl, rfl⟩), G.sy hb⟩
  · rintro ⟨h1 | h1, h2⟩
    · exact Or.inl ⟨h1, h2⟩
    · exact Or.inr h1
theorem swp_0 {p q k l : Nat} {gg : Nat → Nat} (G : GR g n) (hl : l < k) (hb : (g k).testBit l = false) (h : swp g p q k l gg) : swp g p q k (l + 1) gg := fun x y => by
  rw [h x y]
  obtain ⟨a, ha⟩ : ∃ a, a = tr p q x := ⟨_, rfl⟩
  obtain ⟨b, hb'⟩ : ∃ b, b = tr p q y := ⟨_, rfl⟩
  rw [← ha, ← hb']
  have key : don k (l + 1) a b ↔ don k l a b ∨ (a = k ∧ b = l) ∨ (a = l ∧ b = k) := by unfold don; omega
  rw [key]
  constructor
  · rintro ⟨h1, h2⟩; exact ⟨Or.inl h1, h2⟩
  · rintro ⟨h1 | ⟨h1, h3⟩ | ⟨h1, h3⟩, h2⟩
    · exact ⟨h1, h2⟩
    · subst h1; subst h3; rw [hb] at h2; cases h2
    · subst h1; subst h3; have := G.sy h2; rw [hb] at this; cases this
theorem swp_r {p q k : Nat} {gg : Nat → Nat} (h : swp g p q k k gg) : swp g p q (k + 1) 0 gg := fun x y => by
  rw [h x y]
  have key : don k k (tr p q x) (tr p q y) ↔ don (k + 1) 0 (tr p q x) (tr p q y) := by unfold don; omega
  rw [key]
theorem swp_n {p q : Nat} {gg : Nat → Nat} (G : GR g n) (hp' : p < n) (hq : q < n) (h : swp g p q n 0 gg) : gg = xg g n p q := funext fun x => Nat.eq_of_testBit_eq fun y => bit_eq (by
  rw [h x y, xg_bit G hp' hq]
  constructor
  · exact fun h => h.2
  · intro h2
    refine ⟨?_, h2⟩
    have := G.lt h2
    have := G.lt' h2
    have := G.ne h2
    unfold don; omega)
theorem sw_pre (R : RF c n g w) (h2 : c 72 = ar 20 (fun i => nI (sv g1 w1 i))) {p q : Nat} (hp' : p < n) (hq : q < n) {v : Int32} {c' : Nat → List Value} (K : SW none m_X10_swap (d + 1) 0 0 121 [some (.ref 70), none, none, none, none] [] (hp (cX c (xg g n p q) w1)) (rI v (hp c'))) : SW none m_X10_swap (d + 1) 0 0 37 [some (.ref 70), some (.int (nI p)), some (.int (nI q)), some (.int 0), none] [] (hp c) (rI v (hp c')) := by
  obtain ⟨z, hz, h9, h6⟩ := R.Z
  have hn := R.le
  have f6 := R.z6 hz
  have M := fun g' : Nat → Nat => cX_M (c := c) (g := g') (w := w1) hz
  have H71 := fun g' : Nat → Nat => hp_is (c := cX c g' w1) 71 100 ((up1_ne _ _ (by decide)).trans R.row) (by decide) (by decide)
  have key := up_all (n := 10) (T := fun k => a_X10_swap_37 (d + 1) 0 0 70 (nI p) (nI q) (nI k) (hp (cX c (fun i => if i < k then 0 else g1 i) w1)) (rI v (hp c'))) (fun k hk ih => ?_) ?_
  · have e0 : cX c (fun i => if i < 0 then 0 else g1 i) w1 = c := by
      have : (fun i => if i < 0 then 0 else g1 i) = g1 := funext fun i => if_neg (Nat.not_lt_zero i)
      rw [this]; exact up1_id h2
    have key : a_X10_swap_37 (d + 1) 0 0 70 (nI p) (nI q) (nI 0) (hp (cX c (fun i => if i < 0 then 0 else g1 i) w1)) (rI v (hp c')) := key
    rw [e0] at key; exact key
  · refine b_X10_swap_37 (fun q => absurd q (nI_ge (a := k) (b := 10) hk (by decide))) (fun _ => b_X10_swap_43 (M _) rfl cX_H (nI_pos (by omega)) (ln20 (by omega)) ?_)
    have e : up1 (fun i => if i < k then 0 else g1 i) k 0 = fun i => if i < k + 1 then 0 else g1 i := funext fun i => by
      by_cases e : i = k
      · subst e; rw [up1_same, if_pos (show i < i + 1 by omega)]
      · rw [up1_ne _ _ e]
        by_cases h : i < k
        · rw [if_pos h, if_pos (show i < k + 1 by omega)]
        · rw [if_neg h, if_neg (show ¬ i < k + 1 by omega)]
    rw [show (0 : Int32) = nI 0 from rfl, cl_nI (by omega), ar_upN, sv_up (by omega), cX_s, e, nI_1]
    exact ih
  · refine b_X10_swap_37 (fun _ => b_X10_swap_56 ?_) (fun q => absurd (nI_le (a := 10) (b := 10) (Nat.le_refl _) (by decide)) q)
    have e0 : cX c (fun i => if i < 10 then 0 else g1 i) w1 = cX c (fun _ => 0) w1 := by
      unfold cX
      rw [ar_ext (n := 20) (f := fun i => nI (sv (fun i => if i < 10 then 0 else g1 i) w1 i)) (g := fun i => nI (sv (fun _ => 0) w1 i)) (fun i _ => by
        unfold sv
        by_cases h : i < 10
        · rw [if_pos h, if_pos h]
          show nI (if i < 10 then 0 else g1 i) = nI 0
          rw [if_pos h]
        · rw [if_neg h, if_neg h])]
    rw [e0]
    have trl : ∀ k, k < n → tr p q k < 10 := fun k hk => by
      unfold tr
      split
      · omega
      · split <;> omega
    refine up_all (n := n) (T := fun k => ∀ gg, swp g p q k 0 gg → a_X10_swap_58 (d + 1) 0 0 70 (nI p) (nI q) (nI k) (hp (cX c gg w1)) (rI v (hp c'))) (fun k hk ih => ?_) (fun gg hgg => ?_) (fun _ => 0) (fun x y => ?_)
    · intro gg hgg
      refine b_X10_swap_58 (M _) f6 (fun q => absurd q (nI_ge hk (by omega))) (fun _ => b_X10_swap_66 ?_)
      refine up_all (n := k) (T := fun l => ∀ gg, swp g p q k l gg → a_X10_swap_69 (d + 1) 0 0 70 (nI p) (nI q) (nI k) (nI l) (hp (cX c gg w1)) (rI v (hp c'))) (fun l hl ih2 => ?_) (fun gg hgg => ?_) gg hgg
      · intro gg hgg
        have hgk := R.g10 k
        refine b_X10_swap_69 (fun q => absurd q (nI_ge hl (by omega))) (fun _ => b_X10_swap_75 (x4 := nI (g k)) (M _) rfl (H71 _) (nI_pos (by omega)) (by rw [at20 (by omega), sv_lo (by omega)]) (r_has (by omega) (by omega)) (fun q2 => b_X10_swap_109 ?_) (fun q2 => ?_))
        · rw [nI_1]; exact ih2 gg (swp_0 R.F.1 hl (h01.mp q2) hgg)
        · have mj := r_joins (d := d) (h := hp (cX c gg w1)) (a := 72) (u := tr p q k) (v := tr p q l) cX_H (trl k hk) (trl l (by omega))
          rw [cX_s] at mj
          refine b_X10_swap_89 (M _) rfl (r_exchanged (by omega) (by omega) (by omega)) (r_exchanged (by omega) (by omega) (by omega)) mj (b_X10_swap_109 ?_)
          rw [nI_1]; exact ih2 _ (swp_1 R.F.1 hl (tb_of q2) hgg)
      · refine b_X10_swap_69 (fun _ => b_X10_swap_115 ?_) (fun q => absurd (nI_le (Nat.le_refl k) (by omega)) q)
        rw [nI_1]; exact ih gg (swp_r hgg)
    · have e := swp_n R.F.1 hp' hq hgg
      subst e
      exact b_X10_swap_58 (M _) f6 (fun _ => K) (fun q => absurd (nI_le (Nat.le_refl n) (by omega)) q)
    · rw [Nat.zero_testBit]
      constructor
      · intro h; cases h
      · intro h
        have h := h.1
        unfold don at h
        omega
theorem q_swap (R : RF c n g w) (X : HF c ch kp Hg Hw Sg Sw a) {u v : Nat} (hu : u < n) (hv : v < n) : ∃ c', MSE m_X10_swap (d + 3) [.ref 70, .int (nI u), .int (nI v)] (hp c) (some (.int (nI (fre g (xg g n u v) w n)))) (hp c') ∧ RF c' n (xg g n u v) w ∧ HF c' (min (ch + 1) 8) kp (shH Hg g) (shH Hw w) Sg Sw a ∧ CF c c' 0 := by
  obtain ⟨z, hz, h2, h3⟩ := R.Z
  have Q := QF.th (t := 0) R.S hz
  have R2 := R.q Q
  have X2 := X.q Q
  obtain ⟨fs, H⟩ := R.M
  obtain ⟨c3, m3, R3, X3, K3⟩ := r_remembers (d := d + 2) R2 X2
  obtain ⟨o, ho⟩ := R3.S.1
  rw [sv_any] at ho
  have R4 : RF (cX c3 (xg g n u v) (fun i => o (10 + i))) n g w := R3.up2 (by decide) R3.S.r72
  have X4 : HF (cX c3 (xg g n u v) (fun i => o (10 + i))) (min (ch + 1) 8) kp (shH Hg g) (shH Hw w) Sg Sw a := X3.up (by decide)
  obtain ⟨fs4, H4⟩ := R4.M
  have FX := R.F.xgF hu hv
  have m4 := r_comes (d := d) R4 (up1_same _ _ _) FX.1
  have st := sw_pre (d := d + 2) R3 ho hu hv (b_X10_swap_121 H4 m4 ⟨rfl, rfl⟩)
  exact ⟨_, e_X10_swap (b_X10_swap_0 H (r_isVertex (d := d + 1) R) (fun q => absurd q (nv1 (isV_t hu))) (fun _ => b_X10_swap_9 H (r_isVertex (d := d + 1) R) (fun _ => b_X10_swap_21 (b_X10_swap_22 H (r_fails0 hz) (fun _ => b_X10_swap_31 cT_H m3 st) (fun q => absurd rfl q))) (fun q => absurd q (nv1 (isV_t hv))))), R4.now FX R.w99, X4.up (by decide), ((Q.C.k K3).k (KF.up (by decide))).k KF.nowK⟩
end
