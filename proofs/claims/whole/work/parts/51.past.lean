/-! what can be undone, snapshots: the object 55 -/
def rgL : List Value := (List.range 8).map (fun i => .ref (57 + i))
def snL : List Value := (List.range 3).map (fun i => .ref (66 + i))
theorem rgL_at {i : Nat} (hi : i < 8) : rgL[(nI i).toNatClampNeg]? = some (.ref (57 + i)) := by
  rw [cl_nI (by omega)]
  unfold rgL
  rw [List.getElem?_map, List.getElem?_range hi]; rfl
theorem snL_at {i : Nat} (hi : i < 3) : snL[(nI i).toNatClampNeg]? = some (.ref (66 + i)) := by
  rw [cl_nI (by omega)]
  unfold snL
  rw [List.getElem?_map, List.getElem?_range hi]; rfl
theorem kd_rg : ∀ i, i < 8 → kd (57 + i) = 100 := by decide
theorem kd_sn : ∀ i, i < 3 → kd (66 + i) = 100 := by decide
def paL (nx ch kp : Nat) : List Value := [.ref 56, .ref 65, .int (nI nx), .int (nI ch), .int (nI kp)]
section
variable {d n nx ch kp : Nat} {c : Nat → List Value} {g w q : Nat → Nat}
theorem s_pforget (h1 : c 55 = paL nx ch kp) : MSE m_X5_forget d [.ref 55] (hp c) none (hp (up1 c 55 (paL nx 0 0))) := by
  have H := hp_is (c := c) 55 5 h1 (by decide) (by decide)
  have e1 : (hp c).set 55 (5, (paL nx ch kp).set 3 (.int 0)) = hp (up1 c 55 (paL nx 0 kp)) := hp_set (by decide) (by decide)
  refine e_X5_forget (b_X5_forget_0 H (by show 3 < 5; decide) (by rw [e1]; exact hp_is 55 5 (up1_same _ _ _) (by decide) (by decide)) (by show 4 < 5; decide) ⟨rfl, ?_⟩)
  rw [e1, hp_set (by decide) (by decide)]
  congr 1
  funext j
  unfold up1; try dsimp only
  by_cases e : j = 55
  · rw [if_pos e, if_pos e]; rfl
  · rw [if_neg e, if_neg e, if_neg e]
theorem up1_up1 {α : Type} {c : Nat → α} {i : Nat} {x y : α} : up1 (up1 c i x) i y = up1 c i y := by
  funext j
  unfold up1; try dsimp only
  by_cases e : j = i
  · rw [if_pos e, if_pos e]
  · rw [if_neg e, if_neg e, if_neg e]
theorem s_record (F : FO (hp c) 11 12 13 n g w) (h1 : c 55 = paL nx ch kp) (h2 : c 56 = rgL) (h3 : c (57 + nx) = ar 20 (fun j => nI (q j))) (hnx : nx < 8) (hch : ch ≤ 8) : MSE m_X5_record (d + 1) [.ref 55, .ref 11] (hp c) (some (.ref (57 + nx))) (hp (up1 (up1 c (57 + nx) (ar 20 (fun i => nI (sv g w i)))) 55 (paL ((nx + 1) % 8) (min (ch + 1) 8) kp))) := by
  have H := hp_is (c := c) 55 5 h1 (by decide) (by decide)
  have H2 := hp_is (c := c) 56 104 h2 (by decide) (by decide)
  have H3 := hp_is (c := c) (57 + nx) 100 h3 (by omega) (kd_rg nx hnx)
  have e1 : (hp c).set (57 + nx) (100, ar 20 (fun i => nI (sv g w i))) = hp (up1 c (57 + nx) (ar 20 (fun i => nI (sv g w i)))) := hp_set (by omega) (kd_rg nx hnx)
  obtain ⟨c1, hc1⟩ : ∃ c1, c1 = up1 c (57 + nx) (ar 20 (fun i => nI (sv g w i))) := ⟨_, rfl⟩
  rw [← hc1] at e1 ⊢
  have g1 : c1 55 = paL nx ch kp := by rw [hc1, up1_ne _ _ (by omega)]; exact h1
  have g2 : c1 56 = rgL := by rw [hc1, up1_ne _ _ (by omega)]; exact h2
  have e2 : (hp c1).set 55 (5, (paL nx ch kp).set 2 (.int (nI ((nx + 1) % 8)))) = hp (up1 c1 55 (paL ((nx + 1) % 8) ch kp)) := hp_set (by decide) (by decide)
  have e3 : (hp (up1 c1 55 (paL ((nx + 1) % 8) ch kp))).set 55 (5, (paL ((nx + 1) % 8) ch kp).set 3 (.int (nI (min (ch + 1) 8)))) = hp (up1 c1 55 (paL ((nx + 1) % 8) (min (ch + 1) 8) kp)) := by
    rw [hp_set (by decide) (by decide), up1_up1]; rfl
  have G2 := hp_is (c := up1 c1 55 (paL ((nx + 1) % 8) ch kp)) 55 5 (up1_same _ _ _) (by decide) (by decide)
  have G3 := hp_is (c := up1 c1 55 (paL ((nx + 1) % 8) (min (ch + 1) 8) kp)) 55 5 (up1_same _ _ _) (by decide) (by decide)
  have G4 := hp_is (c := up1 c1 55 (paL ((nx + 1) % 8) (min (ch + 1) 8) kp)) 56 104 ((up1_ne _ _ (by decide)).trans g2) (by decide) (by decide)
  refine e_X5_record (b_X5_record_0 (v4 := nI nx) (v17 := nI ((nx + 1) % 8)) (v25 := nI (min (ch + 1) 8)) (x21 := nI ch) H rfl (s_floorMod (Or.inr ⟨nx, by omega, rfl, (Nat.mod_eq_of_lt hnx).symm⟩)) H rfl H2 (nI_pos (by omega)) (rgL_at hnx) F.1 (s_saveTo F H3 (by omega) (by omega)) (by rw [nI_1]; exact s_floorMod (Or.inr ⟨nx + 1, by omega, rfl, rfl⟩)) (by rw [e1]; exact hp_is 55 5 g1 (by decide) (by decide)) (by show 2 < 5; decide) (by rw [e1, e2]; exact G2) rfl (by rw [nI_1]; exact s_minN (b := 8) (by omega) (by decide)) (by rw [e1, e2]; exact G2) (by show 3 < 5; decide) (by rw [e1, e2, e3]; exact G3) rfl (by rw [e1, e2, e3]; exact G4) (nI_pos (by omega)) (rgL_at hnx) ⟨rfl, ?_⟩)
  rw [e1, e2, e3]
theorem s_takeBack0 (h1 : c 55 = paL nx 0 kp) : MSE m_X5_takeBack (d + 1) [.ref 55, .ref 11] (hp c) (some (.int 0)) (hp c) :=
  e_X5_takeBack (b_X5_takeBack_0 (hp_is (c := c) 55 5 h1 (by decide) (by decide)) rfl (fun q => absurd rfl q) (fun _ => b_X5_takeBack_7 ⟨rfl, rfl⟩))
theorem s_takeBack {g2 w2 : Nat → Nat} (F : FO (hp c) 11 12 13 n g w) (h1 : c 55 = paL nx (ch + 1) kp) (h2 : c 56 = rgL) (hnx : nx < 8) (hch : ch < 8) (h3 : c (57 + (nx + 7) % 8) = ar 20 (fun j => nI (sv g2 w2 j))) (hg2 : ∀ i, g2 i < 1024) : MSE m_X5_takeBack (d + 1) [.ref 55, .ref 11] (hp c) (some (.int 1)) (hp (up1 (up1 (up1 c 55 (paL ((nx + 7) % 8) ch kp)) 12 (ar 10 (fun i => nI (g2 i)))) 13 (ar 10 (fun i => nI (w2 i))))) := by
  have H := hp_is (c := c) 55 5 h1 (by decide) (by decide)
  have hr : (nx + 7) % 8 < 8 := Nat.mod_lt _ (by decide)
  have em : MSE m_J9_floorMod_7cf53 d [.int (nI nx - 1), .int 8] (hp c) (some (.int (nI ((nx + 7) % 8)))) (hp c) := by
    cases nx with
    | zero => exact s_floorMod (Or.inl ⟨by decide, by decide⟩)
    | succ k =>
      rw [nI_pred]
      exact s_floorMod (Or.inr ⟨k, by omega, rfl, by omega⟩)
  have e2 : (hp c).set 55 (5, (paL nx (ch + 1) kp).set 2 (.int (nI ((nx + 7) % 8)))) = hp (up1 c 55 (paL ((nx + 7) % 8) (ch + 1) kp)) := hp_set (by decide) (by decide)
  have e3 : (hp (up1 c 55 (paL ((nx + 7) % 8) (ch + 1) kp))).set 55 (5, (paL ((nx + 7) % 8) (ch + 1) kp).set 3 (.int (nI (ch + 1) - 1))) = hp (up1 c 55 (paL ((nx + 7) % 8) ch kp)) := by
    rw [hp_set (by decide) (by decide), up1_up1, nI_pred]; rfl
  have G2 := hp_is (c := up1 c 55 (paL ((nx + 7) % 8) (ch + 1) kp)) 55 5 (up1_same _ _ _) (by decide) (by decide)
  have G3 := hp_is (c := up1 c 55 (paL ((nx + 7) % 8) ch kp)) 55 5 (up1_same _ _ _) (by decide) (by decide)
  have G4 := hp_is (c := up1 c 55 (paL ((nx + 7) % 8) ch kp)) 56 104 ((up1_ne _ _ (by decide)).trans h2) (by decide) (by decide)
  have F2 : FO (hp (up1 c 55 (paL ((nx + 7) % 8) ch kp))) 11 12 13 n g w := by
    rw [← hp_set (k := 5) (by decide) (by decide)]
    exact F.off (by decide) (by decide) (by decide)
  have G5 := hp_is (c := up1 c 55 (paL ((nx + 7) % 8) ch kp)) (57 + (nx + 7) % 8) 100 ((up1_ne _ _ (by omega)).trans h3) (by omega) (kd_rg _ hr)
  refine e_X5_takeBack (b_X5_takeBack_0 H rfl (fun _ => b_X5_takeBack_9 (v7 := nI ((nx + 7) % 8)) (x11 := nI (ch + 1)) (x19 := nI ((nx + 7) % 8)) H rfl em H (by show 2 < 5; decide) (by rw [e2]; exact G2) rfl (by rw [e2]; exact G2) (by show 3 < 5; decide) (by rw [e2, e3]; exact G3) rfl (by rw [e2, e3]; exact G3) rfl (by rw [e2, e3]; exact G4) (nI_pos (by omega)) (rgL_at hr) (by rw [e2, e3]; exact F2.1) (by rw [e2, e3]; exact s_bringFrom F2 G5 (by omega) (by omega) hg2) ⟨rfl, ?_⟩) (fun q => absurd ((i_eq0 (by omega)).mp q) (by omega)))
  rw [hp_set (by decide) (by decide), hp_set (by decide) (by decide)]
theorem s_hasSnapshot (h1 : c 55 = paL nx ch kp) (hk : kp < 8) {s : Nat} (hs : s < 3) : MSE m_X5_hasSnapshot (d + 1) [.ref 55, .int (nI s)] (hp c) (some (.int (nI (if kp.testBit s = true then 1 else 0)))) (hp c) := by
  have H := hp_is (c := c) 55 5 h1 (by decide) (by decide)
  refine e_X5_hasSnapshot (b_X5_hasSnapshot_0 (fun q => absurd q (nI_pos (by omega))) (fun _ => b_X5_hasSnapshot_4 (fun q => absurd q (nI_ge (a := s) (b := 3) hs (by decide))) (fun _ => b_X5_hasSnapshot_9 H rfl (s_holds (by omega) (by omega)) (fun q => b_X5_hasSnapshot_24 (b_X5_hasSnapshot_25 (by decide) ⟨?_, rfl⟩)) (fun q => b_X5_hasSnapshot_20 (b_X5_hasSnapshot_25 (by decide) ⟨?_, rfl⟩)))))
  · rw [h01.mp q]; rfl
  · rw [tb_of q]; rfl
theorem s_keepSnapshot (F : FO (hp c) 11 12 13 n g w) (h1 : c 55 = paL nx ch kp) (h2 : c 65 = snL) {s : Nat} (hs : s < 3) (h3 : c (66 + s) = ar 20 (fun j => nI (q j))) : MSE m_X5_keepSnapshot (d + 1) [.ref 55, .int (nI s), .ref 11] (hp c) none (hp (up1 (up1 c (66 + s) (ar 20 (fun i => nI (sv g w i)))) 55 (paL nx ch (kp ||| 2 ^ s)))) := by
  have H := hp_is (c := c) 55 5 h1 (by decide) (by decide)
  have H2 := hp_is (c := c) 65 104 h2 (by decide) (by decide)
  have H3 := hp_is (c := c) (66 + s) 100 h3 (by omega) (kd_sn s hs)
  have e1 : (hp c).set (66 + s) (100, ar 20 (fun i => nI (sv g w i))) = hp (up1 c (66 + s) (ar 20 (fun i => nI (sv g w i)))) := hp_set (by omega) (kd_sn s hs)
  have G := hp_is (c := up1 c (66 + s) (ar 20 (fun i => nI (sv g w i)))) 55 5 ((up1_ne _ _ (by omega)).trans h1) (by decide) (by decide)
  refine e_X5_keepSnapshot (b_X5_keepSnapshot_0 (fun q => absurd q (nI_pos (by omega))) (fun _ => b_X5_keepSnapshot_4 (fun q => absurd q (nI_ge (a := s) (b := 3) hs (by decide))) (fun _ => b_X5_keepSnapshot_9 (x9 := nI kp) H rfl H2 (nI_pos (by omega)) (snL_at hs) F.1 (s_saveTo F H3 (by omega) (by omega)) (by rw [e1]; exact G) rfl (by rw [e1]; exact G) (by show 4 < 5; decide) (b_X5_keepSnapshot_31 ⟨rfl, ?_⟩))))
  rw [e1, i_shl1 (by omega), i_or, hp_set (by decide) (by decide)]; rfl
theorem s_bringSnapshot {g2 w2 : Nat → Nat} (F : FO (hp c) 11 12 13 n g w) (h1 : c 55 = paL nx ch kp) (h2 : c 65 = snL) {s : Nat} (hs : s < 3) (hk : kp < 8) (hb : kp.testBit s = true) (h3 : c (66 + s) = ar 20 (fun j => nI (sv g2 w2 j))) (hg2 : ∀ i, g2 i < 1024) : MSE m_X5_bringSnapshot (d + 2) [.ref 55, .int (nI s), .ref 11] (hp c) none (hp (up1 (up1 c 12 (ar 10 (fun i => nI (g2 i)))) 13 (ar 10 (fun i => nI (w2 i))))) := by
  have H := hp_is (c := c) 55 5 h1 (by decide) (by decide)
  have H2 := hp_is (c := c) 65 104 h2 (by decide) (by decide)
  have H3 := hp_is (c := c) (66 + s) 100 h3 (by omega) (kd_sn s hs)
  have m1 := s_hasSnapshot (d := d) h1 hk hs
  rw [hb] at m1
  refine e_X5_bringSnapshot (b_X5_bringSnapshot_0 H m1 (fun q => absurd q (by decide)) (fun _ => b_X5_bringSnapshot_8 H rfl H2 (nI_pos (by omega)) (snL_at hs) F.1 (s_bringFrom F H3 (by omega) (by omega) hg2) (b_X5_bringSnapshot_18 ⟨rfl, ?_⟩)))
  rw [hp_set (by decide) (by decide), hp_set (by decide) (by decide)]
end
