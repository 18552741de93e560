section
variable {g w : Nat → Nat} {n r v x u k q s l : Nat} {pa : Option Nat} {T : vw_s}
theorem mcU_ext {f h : Nat → Nat} {ch : Nat → Bool} : ∀ m, (∀ u, u < m → ch u = true → f u = h u) → mcU f ch m = mcU h ch m
  | 0, _ => rfl
  | m + 1, e => by
    show (if ch m = true then max (mcU f ch m) (f m) else mcU f ch m) = (if ch m = true then max (mcU h ch m) (h m) else mcU h ch m)
    rw [mcU_ext m (fun u hu => e u (by omega))]
    split
    · rename_i hc
      rw [e m (by omega) hc]
    · rfl
theorem cnS_ok (F : FOR g n) (hn : n ≤ 10) (hr : r < n) (T : vw_s) : cnS (wfS g n T r).2 n (comp g n r) = (lbU (comp g n r) (mm g w n 1) n).2 := by
  have G := F.1
  apply set_ext
  intro j
  refine bit_eq ?_
  rw [cen_iff F hn hr]
  unfold cnS cnB
  rw [stU_bit, Bool.and_eq_true, Bool.and_eq_true, decide_eq_true_eq, Bool.not_eq_true', decide_eq_false_iff_not, comp_bit G hn hr]
  have key : cn g TT r j → (¬ nI (2 * pc (comp g n r)) < 2 * (if (wfS g n T r).2 3 j < nI (2 * pc (comp g n r)) - (wfS g n T r).2 2 j then nI (2 * pc (comp g n r)) - (wfS g n T r).2 2 j else (wfS g n T r).2 3 j) ↔ 2 * MP g n j ≤ pc (comp g n r)) := by
    intro hc
    have hj := G.into hc hr
    obtain ⟨q, hq⟩ := (ds_cn G hn hr).mp hc
    obtain ⟨pa, R⟩ := RP.ex G hn hr hq
    obtain ⟨-, g2, g3, -⟩ := wf_good F hn hr T j pa q R
    obtain ⟨-, -, -, wz, -, zm⟩ := Wd_all F hn hr R
    have hM := MP_root F hn hj (pa := pa) (fun p e => (R.2.2 p e).2.2)
    rw [← comp_eq G hn hr hc] at hM
    have hmc : mcU (fun u => bc 20 (Wd g n (10 - q - 1) u (some j))) (chB g j pa) n = mcU (fun u => pc (mr g n (some j) u)) (chB g j pa) n := by
      refine mcU_ext n (fun u _ hc => ?_)
      obtain ⟨-, -, -, a1, -, a2⟩ := Wd_all F hn hr (R.sub F hn hr hc)
      rw [show 10 - q - 1 = 10 - (q + 1) by omega, a1, a2]
    rw [hmc] at g3
    rw [wz, zm] at g2
    have hzT : pc (mr g n pa j) ≤ pc (comp g n r) := pc_mono (fun i hi => by
      rw [comp_bit G hn hr]
      exact cn_tr hc (cn_TT ((mr_bit G hn hj).mp hi)))
    have hT := pc_le (comp g n r)
    have hmc10 : mcU (fun u => pc (mr g n (some j) u)) (chB g j pa) n ≤ 10 := mcU_le n (fun u _ _ => pc_le _)
    obtain ⟨Tn', hT'⟩ : ∃ t, t = pc (comp g n r) := ⟨_, rfl⟩
    obtain ⟨z, hz'⟩ : ∃ t, t = pc (mr g n pa j) := ⟨_, rfl⟩
    obtain ⟨mx, hmx⟩ : ∃ t, t = mcU (fun u => pc (mr g n (some j) u)) (chB g j pa) n := ⟨_, rfl⟩
    rw [← hT'] at hM hT hzT ⊢
    rw [← hz'] at hM hzT g2
    rw [← hmx] at hM hmc10 g3
    rw [g2, g3, hM, show nI (2 * Tn') - nI (2 * z) = nI (2 * Tn' - 2 * z) from pk_sub (by omega)]
    have e : (if nI (2 * mx) < nI (2 * Tn' - 2 * z) then nI (2 * Tn' - 2 * z) else nI (2 * mx)) = nI (2 * max mx (Tn' - z)) := by
      by_cases h : 2 * mx < 2 * Tn' - 2 * z
      · rw [if_pos (nI_lt h (by omega)), Nat.max_eq_right (by omega), show 2 * (Tn' - z) = 2 * Tn' - 2 * z by omega]
      · rw [if_neg (nI_nlt (by omega) (by omega)), Nat.max_eq_left (by omega)]
    rw [e, show (2 : Int32) * nI (2 * max mx (Tn' - z)) = nI (2 * (2 * max mx (Tn' - z))) from pk_mul 2 _]
    constructor
    · intro h
      rcases Nat.lt_or_ge Tn' (2 * max mx (Tn' - z)) with q' | q'
      · exact absurd (nI_lt (show 2 * Tn' < 2 * (2 * max mx (Tn' - z)) by omega) (by omega)) h
      · exact q'
    · intro h
      exact nI_nlt (by omega) (by omega)
  constructor
  · rintro ⟨h1, h2, h3⟩
    exact ⟨h2, (key h2).mp h3⟩
  · rintro ⟨h1, h2⟩
    exact ⟨G.into h1 hr, h1, (key h1).mpr h2⟩
theorem msU_s {cen : Nat} {W : Nat → Nat} : msU cen W (k + 1) = if cen.testBit k = true then (if msU cen W k = 0 ∨ isl (W k) (msU cen W k) = true then W k else msU cen W k) else msU cen W k := rfl
theorem msU_in {cen : Nat} {W : Nat → Nat} : ∀ k, msU cen W k = 0 ∨ ∃ u, u < k ∧ cen.testBit u = true ∧ msU cen W k = W u
  | 0 => Or.inl rfl
  | k + 1 => by
    have ih := msU_in (cen := cen) (W := W) k
    have up : (msU cen W k = 0 ∨ ∃ u, u < k ∧ cen.testBit u = true ∧ msU cen W k = W u) → (msU cen W k = 0 ∨ ∃ u, u < k + 1 ∧ cen.testBit u = true ∧ msU cen W k = W u) := fun h => by
      rcases h with h | ⟨u, h1, h2⟩
      · exact Or.inl h
      · exact Or.inr ⟨u, by omega, h2⟩
    rw [msU_s]
    by_cases hb : cen.testBit k = true
    · rw [if_pos hb]
      by_cases hc : msU cen W k = 0 ∨ isl (W k) (msU cen W k) = true
      · rw [if_pos hc]; exact Or.inr ⟨k, by omega, hb, rfl⟩
      · rw [if_neg hc]; exact up ih
    · rw [if_neg hb]; exact up ih
theorem msU_nz {cen : Nat} {W : Nat → Nat} (hW : ∀ u, W u ≠ 0 ∨ ¬ cen.testBit u = true) (hb : cen.testBit v = true) : ∀ k, v < k → msU cen W k ≠ 0
  | 0, h => absurd h (Nat.not_lt_zero v)
  | k + 1, h => by
    rw [msU_s]
    by_cases e : v = k
    · subst e
      rw [if_pos hb]
      by_cases hc : msU cen W v = 0 ∨ isl (W v) (msU cen W v) = true
      · rw [if_pos hc]; exact (hW v).resolve_right (fun q => q hb)
      · rw [if_neg hc]; exact fun e => hc (Or.inl e)
    · have ih := msU_nz hW hb k (by omega)
      by_cases hk : cen.testBit k = true
      · rw [if_pos hk]
        by_cases hc : msU cen W k = 0 ∨ isl (W k) (msU cen W k) = true
        · rw [if_pos hc]; exact (hW k).resolve_right (fun q => q hk)
        · rw [if_neg hc]; exact ih
      · rw [if_neg hk]; exact ih
theorem Sw_all (F : FOR g n) (hn : n ≤ 10) (hr : r < n) : WK (Sw g w n (comp g n r)) ∧ Sw g w n (comp g n r) % 2 = 1 ∧ bc 20 (Sw g w n (comp g n r)) = pc (comp g n r) := by
  have G := F.1
  obtain ⟨z, z1, z2⟩ := cen_ex F hn hr
  have hbit := (cen_iff (w := w) F hn hr).mpr ⟨z1, z2⟩
  have hnz : msU (lbU (comp g n r) (mm g w n 1) n).2 (Rw g n) n ≠ 0 := msU_nz (fun u => by
    by_cases hu : (lbU (comp g n r) (mm g w n 1) n).2.testBit u = true
    · exact Or.inl (Rw_all F hn (G.into ((cen_iff (w := w) F hn hr).mp hu).1 hr)).1.ne0
    · exact Or.inr hu) hbit n (G.into z1 hr)
  rcases msU_in (cen := (lbU (comp g n r) (mm g w n 1) n).2) (W := Rw g n) n with h | ⟨u, h1, h2, h3⟩
  · exact absurd h hnz
  · have e : Sw g w n (comp g n r) = Rw g n u := h3
    obtain ⟨a1, a2, a3⟩ := Rw_all F hn h1
    rw [e]
    exact ⟨a1, a2, by rw [a3, comp_eq G hn hr ((cen_iff (w := w) F hn hr).mp h2).1]⟩
theorem woU_s {cen : Nat} : woU g n cen T (k + 1) = if cen.testBit k = true then (wfS g n (woU g n cen T k).1 k, if (woU g n cen T k).2 = -1 then wfX g n (woU g n cen T k).1 k else if wfX g n (woU g n cen T k).1 k < (woU g n cen T k).2 then wfX g n (woU g n cen T k).1 k else (woU g n cen T k).2) else woU g n cen T k := rfl
theorem woU_ms (F : FOR g n) (hn : n ≤ 10) {cen : Nat} : ∀ k, k ≤ n → (msU cen (Rw g n) k = 0 ∧ (woU g n cen T k).2 = -1) ∨ (msU cen (Rw g n) k ≠ 0 ∧ WK (msU cen (Rw g n) k) ∧ (woU g n cen T k).2 = nI (al20 (msU cen (Rw g n) k)))
  | 0, _ => Or.inl ⟨rfl, rfl⟩
  | k + 1, hk => by
    have ih := woU_ms F hn (cen := cen) k (by omega)
    rw [woU_s, msU_s]
    by_cases hb : cen.testBit k = true
    · rw [if_pos hb, if_pos hb]
      obtain ⟨wk, -, -⟩ := Rw_all F hn (show k < n by omega)
      have eX := wfX_ok F hn (show k < n by omega) (woU g n cen T k).1
      rcases ih with ⟨h1, h2⟩ | ⟨h1, h2, h3⟩
      · rw [if_pos (Or.inl h1), if_pos h2]
        exact Or.inr ⟨wk.ne0, wk, eX⟩
      · have l1 := al_lt2 wk
        have l2 := al_lt2 h2
        have hne : ¬ (woU g n cen T k).2 = -1 := fun e => by
          rw [h3] at e
          exact absurd (nI_pos (show al20 (msU cen (Rw g n) k) < 2147483648 by omega)) (by rw [e]; decide)
        rw [if_neg hne, eX, h3]
        refine Or.inr ?_
        by_cases hlt : al20 (Rw g n k) < al20 (msU cen (Rw g n) k)
        · rw [if_pos (Or.inr (by rw [isl_al]; exact decide_eq_true hlt)), if_pos (nI_lt hlt (by omega))]
          exact ⟨wk.ne0, wk, rfl⟩
        · rw [if_neg (fun q => by
            rcases q with q | q
            · exact h1 q
            · rw [isl_al] at q
              exact hlt (of_decide_eq_true q)), if_neg (nI_nlt (by omega) (by omega))]
          exact ⟨h1, h2, rfl⟩
    · rw [if_neg hb, if_neg hb]; exact ih
/-- the word of a component -/
theorem wo_ok2 (F : FOR g n) (hn : n ≤ 10) (hl : low s = some l) (hln : l < n) (hs : comp g n l = s) : (wo g n s T).2 = nI (al20 (Sw g w n s)) := by
  have e : wo g n s T = woU g n (lbU s (mm g w n 1) n).2 (wfS g n T l) n := by
    unfold wo
    rw [hl]
    show woU g n (cnS (wfS g n T l).2 n s) (wfS g n T l) n = _
    rw [← hs, cnS_ok (w := w) F hn hln T]
  rw [e]
  have h0 := (Sw_all (w := w) F hn hln).1.ne0
  rw [hs] at h0
  rcases woU_ms F hn (T := wfS g n T l) (cen := (lbU s (mm g w n 1) n).2) n (Nat.le_refl _) with ⟨h1, -⟩ | ⟨-, -, h3⟩
  · exact absurd h1 h0
  · exact h3
theorem obU_s {x : Int32} : obU g n s x T (k + 1) = if s.testBit k = true then (wfS g n (obU g n s x T k).1 k, if wfX g n (obU g n s x T k).1 k = x then (obU g n s x T k).2 ||| 2 ^ k else (obU g n s x T k).2) else obU g n s x T k := rfl
theorem obU_2 {x : Int32} : (obU g n s x T (k + 1)).2 = if s.testBit k = true then (if wfX g n (obU g n s x T k).1 k = x then (obU g n s x T k).2 ||| 2 ^ k else (obU g n s x T k).2) else (obU g n s x T k).2 := by
  rw [obU_s]
  split <;> rfl
theorem obU_ok2 (F : FOR g n) (hn : n ≤ 10) (hv : v < n) : ∀ k, k ≤ n → (obU g n s (nI (al20 (Rw g n v))) T k).2 = stU (orB (Rw g n) s (Rw g n v)) k
  | 0, _ => rfl
  | k + 1, hk => by
    have ih := obU_ok2 F hn hv k (by omega)
    obtain ⟨w1, w2, -⟩ := Rw_all F hn hv
    obtain ⟨k1, k2, -⟩ := Rw_all F hn (show k < n by omega)
    rw [obU_2, stU_s]
    by_cases hb : s.testBit k = true
    · rw [if_pos hb, wfX_ok F hn (show k < n by omega), ih]
      by_cases e : Rw g n k = Rw g n v
      · rw [if_pos (by rw [e]), if_pos (by unfold orB; rw [hb, decide_eq_true e]; rfl)]
      · rw [if_neg (fun q => e (al_inj k1 w1 k2 w2 ((i_eq (by have := al_lt2 k1; omega) (by have := al_lt2 w1; omega)).mp q))), if_neg (by unfold orB; rw [decide_eq_false e, Bool.and_false]; decide)]
    · rw [if_neg hb, if_neg (by unfold orB; rw [Bool.and_eq_true]; exact fun q => hb q.1)]
      exact ih
theorem ob_ok2 (F : FOR g n) (hn : n ≤ 10) (hv : v < n) : (ob g n v T).2 = stU (orB (Rw g n) (mc g n v) (Rw g n v)) n := by
  unfold ob
  rw [wfX_ok F hn hv, obU_ok2 F hn hv n (Nat.le_refl _), mc_comp F.1 hn hv]
theorem sy_ok2 (F : FOR g n) (hn : n ≤ 10) (hv : v < n) : syX g n v T = nI (Sy g n v) := by
  unfold syX syS
  rw [ob_ok2 F hn hv, wf4_ok F hn hv, pk_mul]
  rfl
/-! components by their numbers -/
theorem i_dec {x : Int32} {m : Nat} : x - nI (m + 1) = x - nI m + (-1) := by
  rw [← nI_1, Int32.sub_eq_add_neg, Int32.sub_eq_add_neg, Int32.neg_add, Int32.sub_eq_add_neg, Int32.add_assoc]
theorem i_sub0 {x y : Int32} : x - y = 0 ↔ y = x := by
  constructor
  · intro h
    have : x - y + y = 0 + y := by rw [h]
    rw [Int32.sub_add_cancel, Int32.zero_add] at this
    exact this.symm
  · intro h; rw [h, Int32.sub_self]
theorem rot_rot (G : GR g n) (hn : n ≤ 10) (hv : v < n) : rot g n (rot g n v) = rot g n v := by
  obtain ⟨-, h2, h3⟩ := rot_ok G hn hv
  exact rot_eq G hn (by omega) h2
theorem rot_mem (G : GR g n) (hn : n ≤ 10) (hv : v < n) (hu : u < n) : (comp g n v).testBit u = true ↔ rot g n u = rot g n v := by
  rw [comp_bit G hn hv]
  constructor
  · intro h; exact (rot_eq G hn hv h).symm
  · intro h
    have h1 := (rot_ok G hn hv).2.1
    have h2 := (rot_ok G hn hu).2.1
    rw [h] at h2
    exact cn_tr (G.cnT h1) h2
theorem csU_ma {x : Int32} (G : GR g n) (hn : n ≤ 10) : ∀ j v left met, v + j = n → (∀ u, v ≤ u → u < n → (left.testBit u = true ↔ v ≤ rot g n u)) → csU g n x j v left met = maU g n j v (x - nI met)
  | 0, _, _, _, _, _ => rfl
  | j + 1, v, left, met, hj, hl => by
    have hv : v < n := by omega
    have hrv := (rot_ok G hn hv).2.2
    have e1 : csU g n x (j + 1) v left met = if left.testBit v = true then (if nI met = x then comp g n v else csU g n x j (v + 1) (df left (comp g n v)) (met + 1)) else csU g n x j (v + 1) left met := rfl
    have e2 : maU g n (j + 1) v (x - nI met) = if mR g n v = true then (if x - nI met = 0 then mc g n v else maU g n j (v + 1) (x - nI met + (-1))) else maU g n j (v + 1) (x - nI met) := rfl
    rw [e1, e2, mR_isR G hn hv, mc_comp G hn hv]
    by_cases hr : rot g n v = v
    · rw [if_pos ((hl v (Nat.le_refl _) hv).mpr (by omega)), if_pos ((isR_iff G hn hv).mpr hr)]
      by_cases hx : nI met = x
      · rw [if_pos hx, if_pos (i_sub0.mpr hx)]
      · rw [if_neg hx, if_neg (fun q => hx (i_sub0.mp q)), ← i_dec]
        refine csU_ma G hn j (v + 1) _ _ (by omega) (fun u h1 h2 => ?_)
        rw [df_bit, Bool.and_eq_true, Bool.not_eq_true', ← Bool.not_eq_true, hl u (by omega) h2, rot_mem G hn hv h2, hr]
        omega
    · rw [if_neg (fun q => by have := (hl v (Nat.le_refl _) hv).mp q; omega), if_neg (fun q => hr ((isR_iff G hn hv).mp q))]
      refine csU_ma G hn j (v + 1) _ _ (by omega) (fun u h1 h2 => ?_)
      rw [hl u (by omega) h2]
      have : rot g n u ≠ v := fun q => by
        have := rot_rot G hn h2
        rw [q] at this
        exact hr this
      omega
theorem cs_ma {x : Int32} (G : GR g n) (hn : n ≤ 10) : cs g n x = ma g n x := by
  have := csU_ma (x := x) G hn n 0 (al n) 0 (by omega) (fun u _ h2 => by
    rw [al_bit, decide_eq_true_eq]
    exact ⟨fun _ => Nat.zero_le _, fun _ => h2⟩)
  rw [show nI 0 = 0 from rfl, Int32.sub_zero] at this
  exact this
theorem maU_ok (G : GR g n) (hn : n ≤ 10) : ∀ j v (x : Int32), v + j = n → (∃ k l, x = nI k ∧ v ≤ l ∧ l < n ∧ rot g n l = l ∧ cnU (isR g n) l = cnU (isR g n) v + k ∧ maU g n j v x = comp g n l) ∨ (maU g n j v x = 0 ∧ ∀ k, k + cnU (isR g n) v < cnU (isR g n) n → x ≠ nI k)
  | 0, v, x, h => by
    have : v = n := by omega
    subst this
    exact Or.inr ⟨rfl, fun k hk => by omega⟩
  | j + 1, v, x, h => by
    have hv : v < n := by omega
    have e2 : maU g n (j + 1) v x = if mR g n v = true then (if x = 0 then mc g n v else maU g n j (v + 1) (x + (-1))) else maU g n j (v + 1) x := rfl
    have e3 := cnU_s (p := isR g n) (k := v)
    rw [e2, mR_isR G hn hv, mc_comp G hn hv]
    by_cases hr : isR g n v = true
    · rw [if_pos hr] at e3 ⊢
      by_cases hx : x = 0
      · rw [if_pos hx]
        exact Or.inl ⟨0, v, hx, Nat.le_refl _, hv, (isR_iff G hn hv).mp hr, rfl, rfl⟩
      · rw [if_neg hx]
        rcases maU_ok G hn j (v + 1) (x + (-1)) (by omega) with ⟨k, l, a1, a2, a3, a4, a5, a6⟩ | ⟨a1, a2⟩
        · refine Or.inl ⟨k + 1, l, ?_, by omega, a3, a4, by omega, a6⟩
          rw [← nI_1, ← a1, Int32.add_assoc, show (-1 : Int32) + 1 = 0 by decide, Int32.add_zero]
        · refine Or.inr ⟨a1, fun k hk e => ?_⟩
          cases k with
          | zero => exact hx e
          | succ k =>
            refine a2 k (by omega) ?_
            rw [e, ← nI_1, Int32.add_assoc, show (1 : Int32) + (-1) = 0 by decide, Int32.add_zero]
    · rw [if_neg hr] at e3 ⊢
      rcases maU_ok G hn j (v + 1) x (by omega) with ⟨k, l, a1, a2, a3, a4, a5, a6⟩ | ⟨a1, a2⟩
      · exact Or.inl ⟨k, l, a1, by omega, a3, a4, by omega, a6⟩
      · exact Or.inr ⟨a1, fun k hk => a2 k (by omega)⟩
/-- a component, or none, by its number -/
theorem comp_no (G : GR g n) (hn : n ≤ 10) (x : Int32) : (∃ k l, k < cnU (isR g n) n ∧ x = nI k ∧ l < n ∧ cs g n x = comp g n l ∧ low (cs g n x) = some l ∧ cs g n x ≠ 0) ∨ (cs g n x = 0 ∧ ∀ k, k < cnU (isR g n) n → x ≠ nI k) := by
  have h := maU_ok G hn n 0 x (by omega)
  have e : maU g n n 0 x = cs g n x := (cs_ma G hn).symm
  rw [e] at h
  rcases h with ⟨k, l, a1, a2, a3, a4, a5, a6⟩ | ⟨a1, a2⟩
  · have h0 : cnU (isR g n) 0 = 0 := rfl
    have hR : isR g n l = true := (isR_iff G hn a3).mpr a4
    have h1 : cnU (isR g n) l + 1 ≤ cnU (isR g n) n := by
      have e3 := cnU_s (p := isR g n) (k := l)
      rw [if_pos hR] at e3
      have mono : ∀ d, cnU (isR g n) (l + 1) ≤ cnU (isR g n) (l + 1 + d) := fun d => by
        induction d with
        | zero => exact Nat.le_refl _
        | succ d ih =>
          show _ ≤ cnU (isR g n) (l + 1 + d + 1)
          rw [cnU_s (k := l + 1 + d)]
          split <;> omega
      have := mono (n - (l + 1))
      rw [show l + 1 + (n - (l + 1)) = n by omega] at this
      omega
    have hlow : low (cs g n x) = some l := by
      rw [a6, (rot_ok G hn a3).1, a4]
    refine Or.inl ⟨k, l, by omega, a1, a3, a6, hlow, fun e0 => ?_⟩
    have := low_bit hlow
    rw [e0, Nat.zero_testBit] at this
    cases this
  · exact Or.inr ⟨a1, fun k hk => a2 k (by rw [show cnU (isR g n) 0 = 0 from rfl]; omega)⟩
/-! classes -/
theorem asW_5 {W : Nat → Nat → Int32} {f : Nat → Int32} : asW W v f 5 = W 5 := by
  unfold asW
  rw [up1_ne _ _ (by decide), up1_ne _ _ (by decide), up1_ne _ _ (by decide), up1_ne _ _ (by decide)]
theorem wfV_5 {lev below : Nat} {W : Nat → Nat → Int32} : ∀ m, wfV g W lev below m 5 = W 5
  | 0 => rfl
  | m + 1 => by
    rw [wfV_s]
    split
    · exact asW_5.trans (wfV_5 m)
    · exact wfV_5 m
theorem wfU_5 {V : Nat → Nat} : ∀ k (W : Nat → Nat → Int32) below, wfU g n V k W below 5 = W 5
  | 0, _, _ => rfl
  | k + 1, W, below => (wfU_5 k _ _).trans (wfV_5 n)
theorem wfS_5 : (wfS g n T v).2 5 = T.2 5 := (wfU_5 _ _ _).trans (up1_ne _ _ (by decide))
theorem woU_5 {cen : Nat} : ∀ k, (woU g n cen T k).1.2 5 = T.2 5
  | 0 => rfl
  | k + 1 => by
    rw [woU_s]
    split
    · exact wfS_5.trans (woU_5 k)
    · exact woU_5 k
theorem wo_5 : (wo g n s T).1.2 5 = T.2 5 := (woU_5 n).trans wfS_5
theorem cnU_mono {P : Nat → Bool} (d : Nat) : cnU P k ≤ cnU P (k + d) := by
  induction d with
  | zero => exact Nat.le_refl _
  | succ d ih =>
    show _ ≤ cnU P (k + d + 1)
    rw [cnU_s (k := k + d)]
    split <;> omega
theorem cnU_strict {P : Nat → Bool} {j : Nat} (h : j < k) (hp : P j = true) : cnU P j < cnU P k := by
  have := cnU_mono (P := P) (k := j + 1) (k - (j + 1))
  rw [show j + 1 + (k - (j + 1)) = k by omega, cnU_s, if_pos hp] at this
  omega
theorem cnU_surj {P : Nat → Bool} {i : Nat} : ∀ k, i < cnU P k → ∃ j, j < k ∧ P j = true ∧ cnU P j = i
  | 0, h => absurd h (Nat.not_lt_zero i)
  | k + 1, h => by
    rw [cnU_s] at h
    by_cases hp : P k = true
    · rw [if_pos hp] at h
      by_cases e : i = cnU P k
      · exact ⟨k, by omega, hp, e.symm⟩
      · obtain ⟨j, h1, h2⟩ := cnU_surj k (show i < cnU P k by omega)
        exact ⟨j, by omega, h2⟩
    · rw [if_neg hp] at h
      obtain ⟨j, h1, h2⟩ := cnU_surj k h
      exact ⟨j, by omega, h2⟩
theorem nwB_iff {W : Nat → Nat} : nwB W k = true ↔ ∀ q, q < k → W q ≠ W k := by
  unfold nwB
  rw [decide_eq_true_eq, List.find?_eq_none]
  constructor
  · intro h q hq e
    exact h q (List.mem_range.mpr hq) (decide_eq_true e)
  · intro h q hq e
    exact h q (List.mem_range.mp hq) (of_decide_eq_true e)
/-- words met: in the order of the classes -/
def metQ (X : Nat → Nat) (k : Nat) (q : Nat → Int32) : Prop := ∀ j, j < k → nwB X j = true → q (cnU (nwB X) j) = nI (al20 (X j))
theorem mt_step {X : Nat → Nat} {q : Nat → Int32} (hX : ∀ j, j ≤ k → WK (X j) ∧ X j % 2 = 1) (h : metQ X k q) : metQ X (k + 1) (nq q (cnU (nwB X) k) (nI (al20 (X k)))) ∧ nc q (cnU (nwB X) k) (nI (al20 (X k))) = cnU (nwB X) (k + 1) ∧ nv q (cnU (nwB X) k) (nI (al20 (X k))) = Kl X k := by
  have ne : ∀ j, j < k → nwB X j = true → X j ≠ X k → q (cnU (nwB X) j) ≠ nI (al20 (X k)) := fun j hj hnw hne e => by
    rw [h j hj hnw] at e
    obtain ⟨j1, j2⟩ := hX j (by omega)
    obtain ⟨k1, k2⟩ := hX k (Nat.le_refl _)
    exact hne (al_inj j1 k1 j2 k2 ((i_eq (by have := al_lt2 j1; omega) (by have := al_lt2 k1; omega)).mp e))
  by_cases hnew : nwB X k = true
  · have hz := nwB_iff.mp hnew
    have hmt : mt q (cnU (nwB X) k) (nI (al20 (X k))) = none := find_none (fun i hi => by
      obtain ⟨j, j1, j2, j3⟩ := cnU_surj k hi
      rw [← j3]
      exact decide_eq_false (ne j j1 j2 (hz j j1)))
    unfold nq nc nv
    rw [hmt, if_pos rfl, if_pos rfl]
    refine ⟨fun j hj hnw => ?_, by rw [cnU_s, if_pos hnew], ?_⟩
    · by_cases e : j = k
      · subst e; exact up1_same _ _ _
      · have hjk : j < k := by omega
        rw [up1_ne _ _ (by have := cnU_strict hjk hnw; omega)]
        exact h j hjk hnw
    · show cnU (nwB X) k = cnU (nwB X) (fsK X k)
      have : fsK X k = k := by
        unfold fsK
        rw [find_none (fun i hi => decide_eq_false (hz i hi))]; rfl
      rw [this]
  · have : ∃ j, j < k ∧ X j = X k := by
      apply Classical.byContradiction
      intro hc
      exact hnew (nwB_iff.mpr (fun q hq e => hc ⟨q, hq, e⟩))
    obtain ⟨j0, j1, j2⟩ := this
    obtain ⟨j, j3, ⟨j4, j5⟩, j6⟩ := min_ex (P := fun j => j < k ∧ X j = X k) ⟨j1, j2⟩
    have hnj : nwB X j = true := nwB_iff.mpr (fun q hq e => j6 q hq ⟨by omega, by rw [e, j5]⟩)
    have hfs : fsK X k = j := by
      unfold fsK
      rw [find_range j4 (decide_eq_true j5) (fun i hi => decide_eq_false (fun e => j6 i hi ⟨by omega, e⟩))]; rfl
    have hmt : mt q (cnU (nwB X) k) (nI (al20 (X k))) = some (cnU (nwB X) j) := by
      refine find_range (cnU_strict j4 hnj) (decide_eq_true (by rw [h j j4 hnj, j5])) (fun i hi => ?_)
      obtain ⟨j', a1, a2, a3⟩ := cnU_surj j hi
      rw [← a3]
      exact decide_eq_false (ne j' (by omega) a2 (fun e => j6 j' a1 ⟨by omega, e⟩))
    unfold nq nc nv
    rw [hmt, if_neg (by intro e; cases e), if_neg (by intro e; cases e)]
    refine ⟨fun i hi hnw => ?_, by rw [cnU_s, if_neg hnew], ?_⟩
    · by_cases e : i = k
      · subst e; exact absurd hnw hnew
      · exact h i (by omega) hnw
    · show cnU (nwB X) j = cnU (nwB X) (fsK X k)
      rw [hfs]
theorem clU_ok2 (F : FOR g n) (hn : n ≤ 10) {K : Nat} (hK : K ≤ cnU (isR g n) n) : ∀ k, k ≤ K → metQ (Cw g w n) k ((clU g n T k).1.2 5) ∧ (clU g n T k).2.1 = cnU (nwB (Cw g w n)) k ∧ (0 < k → (clU g n T k).2.2 = nI (Kl (Cw g w n) (k - 1)))
  | 0, _ => ⟨fun j hj => absurd hj (Nat.not_lt_zero j), rfl, fun h => absurd h (Nat.lt_irrefl 0)⟩
  | k + 1, hk => by
    have G := F.1
    obtain ⟨i1, i2, -⟩ := clU_ok2 F hn hK k (by omega)
    have hX : ∀ j, j ≤ k → WK (Cw g w n j) ∧ Cw g w n j % 2 = 1 ∧ ∃ l, low (cs g n (nI j)) = some l ∧ l < n ∧ comp g n l = cs g n (nI j) := fun j hj => by
      rcases comp_no G hn (nI j) with ⟨k', l, a1, a2, a3, a4, a5, a6⟩ | ⟨a1, a2⟩
      · have e : Cw g w n j = Sw g w n (comp g n l) := by
          unfold Cw
          rw [← cs_ma G hn, a4]
        obtain ⟨b1, b2, -⟩ := Sw_all (w := w) F hn a3
        rw [e]
        exact ⟨b1, b2, l, a5, a3, a4.symm⟩
      · exact absurd rfl (a2 j (by omega))
    obtain ⟨-, -, l, l1, l2, l3⟩ := hX k (Nat.le_refl _)
    have eC : Cw g w n k = Sw g w n (cs g n (nI k)) := by unfold Cw; rw [← cs_ma G hn]
    have ew : (wo g n (cs g n (nI k)) (clU g n T k).1).2 = nI (al20 (Cw g w n k)) := by rw [eC]; exact wo_ok2 F hn l1 l2 l3
    have e5 : (wo g n (cs g n (nI k)) (clU g n T k).1).1.2 5 = (clU g n T k).1.2 5 := wo_5
    obtain ⟨s1, s2, s3⟩ := mt_step (X := Cw g w n) (q := (clU g n T k).1.2 5) (k := k) (fun j hj => ⟨(hX j hj).1, (hX j hj).2.1⟩) i1
    refine ⟨?_, ?_, fun _ => ?_⟩
    · show metQ (Cw g w n) (k + 1) (nq ((wo g n (cs g n (nI k)) (clU g n T k).1).1.2 5) (clU g n T k).2.1 (wo g n (cs g n (nI k)) (clU g n T k).1).2)
      rw [ew, e5, i2]; exact s1
    · show nc ((wo g n (cs g n (nI k)) (clU g n T k).1).1.2 5) (clU g n T k).2.1 (wo g n (cs g n (nI k)) (clU g n T k).1).2 = _
      rw [ew, e5, i2]; exact s2
    · show nI (nv ((wo g n (cs g n (nI k)) (clU g n T k).1).1.2 5) (clU g n T k).2.1 (wo g n (cs g n (nI k)) (clU g n T k).1).2) = _
      rw [ew, e5, i2, s3, Nat.add_sub_cancel]
end
