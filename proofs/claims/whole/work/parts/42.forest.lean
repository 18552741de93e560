/-! the class's forests -/
/-- a forest lies at f: its rows a (neighbors) and b (weights) -/
def FO (h : ab_H) (f a b n : Nat) (g w : Nat → Nat) : Prop :=
  h[f]? = some (3, [.ref a, .ref b, .int (nI n)]) ∧ h[a]? = some (100, ar 10 (fun i => nI (g i))) ∧ h[b]? = some (100, ar 10 (fun i => nI (w i))) ∧ a ≠ b ∧ n ≤ 10 ∧ (∀ i, g i < 1024)
theorem FO.fa {h : ab_H} {f a b n : Nat} {g w : Nat → Nat} (F : FO h f a b n g w) : a ≠ f := fun e => by
  have h1 := F.1; have h2 := F.2.1
  rw [e, h1] at h2
  cases h2
theorem FO.n31 {h : ab_H} {f a b n : Nat} {g w : Nat → Nat} (F : FO h f a b n g w) : n < 2147483648 := by have := F.2.2.2.2.1; omega
theorem FO.lt {h : ab_H} {f a b n : Nat} {g w : Nat → Nat} (F : FO h f a b n g w) (i : Nat) : g i < 1024 := F.2.2.2.2.2 i
theorem FO.le {h : ab_H} {f a b n : Nat} {g w : Nat → Nat} (F : FO h f a b n g w) : n ≤ 10 := F.2.2.2.2.1
theorem FO.near {h : ab_H} {f a b n : Nat} {g w : Nat → Nat} (F : FO h f a b n g w) {g' : Nat → Nat} (hg : ∀ i, g' i < 1024) : FO (h.set a (100, ar 10 (fun i => nI (g' i)))) f a b n g' w :=
  ⟨by rw [hset_ne F.fa]; exact F.1, hset_eq F.2.1, by rw [hset_ne F.2.2.2.1]; exact F.2.2.1, F.2.2.2.1, F.le, hg⟩
/-- the set of all vertices -/
def al (n : Nat) : Nat := 2 ^ n - 1
theorem al_bit (n j : Nat) : (al n).testBit j = decide (j < n) := Nat.testBit_two_pow_sub_one n j
theorem al_lt {n : Nat} (h : n ≤ 10) : al n < 1024 := by
  have : 2 ^ n ≤ 2 ^ 10 := Nat.pow_le_pow_right (by decide) h
  have h0 : 0 < 2 ^ n := Nat.two_pow_pos n
  unfold al; omega
theorem s_holds {d : Nat} {h : ab_H} {s v : Nat} (hs : s < 2147483648) (hv : v < 31) : MSE m_X9_holds d [.int (nI s), .int (nI v)] h (some (.int (nI (if s.testBit v = true then 1 else 0)))) h := by
  refine e_X9_holds (b_X9_holds_0 (fun q => b_X9_holds_12 (b_X9_holds_13 (by decide) ⟨?_, rfl⟩)) (fun q => b_X9_holds_8 (b_X9_holds_13 (by decide) ⟨?_, rfl⟩)))
  · rw [(i_bit0 hs hv).mp q]; rfl
  · cases hb : s.testBit v
    · exact absurd ((i_bit0 hs hv).mpr hb) q
    · rfl
theorem h01 {b : Bool} : nI (if b = true then 1 else 0) = 0 ↔ b = false := by cases b <;> decide
theorem s_without {d : Nat} {h : ab_H} {s v : Nat} (hv : v < 31) : MSE m_X9_without d [.int (nI s), .int (nI v)] h (some (.int (nI (df s (2 ^ v))))) h := by
  refine e_X9_without (b_X9_without_0 ⟨?_, rfl⟩)
  rw [i_shl1 hv, i_df]
/-- the least vertex of a set; none of none -/
def low (s : Nat) : Option Nat := (List.range 10).find? (fun i => s.testBit i)
def iO (o : Option Nat) : Int32 := match o with
  | some v => nI v
  | none => -1
theorem find_range {p : Nat → Bool} {n v : Nat} (hv : v < n) (hp : p v = true) (hn : ∀ k, k < v → p k = false) : (List.range n).find? p = some v := by
  rw [List.find?_range_eq_some]
  exact ⟨hp, List.mem_range.mpr hv, fun j hj => by rw [hn j hj]; rfl⟩
theorem s_lowest {d : Nat} {h : ab_H} {s : Nat} (hs : s < 2147483648) : MSE m_X9_lowest (d + 1) [.int (nI s)] h (some (.int (iO (low s)))) h := by
  refine e_X9_lowest (b_X9_lowest_0 ?_)
  have key := up_all (n := 10) (T := fun k => (∀ j, j < k → s.testBit j = false) → SW none m_X9_lowest (d + 1) 0 0 2 [some (.int (nI s)), some (.int (nI k))] [] h (fun o h' => o = .inl (some (.int (iO (low s)))) ∧ h' = h)) (fun k hk ih hz => ?_) (fun hz => ?_)
  · exact key (fun j hj => absurd hj (Nat.not_lt_zero j))
  · refine b_X9_lowest_2 (fun q => absurd q (nI_ge (a := k) (b := 10) hk (by decide))) (fun _ => b_X9_lowest_8 (s_holds hs (by omega)) (fun q => b_X9_lowest_18 ?_) (fun q => b_X9_lowest_16 ⟨?_, rfl⟩))
    · rw [nI_1]
      exact ih (fun j hj => by
        rcases Nat.lt_succ_iff_lt_or_eq.mp hj with h1 | h1
        · exact hz j h1
        · rw [h1]; exact h01.mp q)
    · have hb : s.testBit k = true := by
        cases hb : s.testBit k
        · exact absurd (h01.mpr hb) q
        · rfl
      have : low s = some k := find_range hk hb hz
      rw [this]; rfl
  · refine b_X9_lowest_2 (fun _ => b_X9_lowest_24 ⟨?_, rfl⟩) (fun q => absurd (nI_le (a := 10) (b := 10) (Nat.le_refl _) (by decide)) q)
    have : low s = none := by
      unfold low
      rw [List.find?_eq_none]
      intro j hj
      rw [hz j (List.mem_range.mp hj)]; decide
    rw [this]; rfl
section
variable {d : Nat} {h : ab_H} {f a b n : Nat} {g w : Nat → Nat}
theorem s_isVertex (F : FO h f a b n g w) {v : Nat} (hv : v < n) : MSE m_X3_isVertex d [.ref f, .int (nI v)] h (some (.int 1)) h :=
  e_X3_isVertex (b_X3_isVertex_0 (fun q => absurd q (nI_pos (by have := F.le; omega))) (fun _ => b_X3_isVertex_4 F.1 rfl (fun q => absurd q (nI_ge hv F.n31)) (fun _ => b_X3_isVertex_12 (b_X3_isVertex_17 (by decide) ⟨rfl, rfl⟩))))
theorem s_isVertex0 (F : FO h f a b n g w) {x : Int32} (hx : ∀ v, v < n → x ≠ nI v) : MSE m_X3_isVertex d [.ref f, .int x] h (some (.int 0)) h :=
  e_X3_isVertex (b_X3_isVertex_0 (fun _ => b_X3_isVertex_16 (b_X3_isVertex_17 (by decide) ⟨rfl, rfl⟩)) (fun q => b_X3_isVertex_4 F.1 rfl (fun _ => b_X3_isVertex_16 (b_X3_isVertex_17 (by decide) ⟨rfl, rfl⟩)) (fun q2 => by
    rcases pk_ix x F.n31 with h1 | h1 | ⟨j, hj, e⟩
    · exact absurd h1 q
    · exact absurd h1 q2
    · exact absurd e (hx j hj))))
theorem s_all (F : FO h f a b n g w) : MSE m_X3_all d [.ref f] h (some (.int (nI (al n)))) h := by
  refine e_X3_all (b_X3_all_0 F.1 rfl ⟨?_, rfl⟩)
  have := F.le
  rw [i_shl1 (by omega)]
  exact congrArg (fun x => Sum.inl (some (Value.int x))) (pk_sub (a := 2 ^ n) (b := 1) (Nat.two_pow_pos n))
theorem s_nearOf (F : FO h f a b n g w) {v : Nat} (hv : v < 10) : MSE m_X3_nearOf d [.ref f, .int (nI v)] h (some (.int (nI (g v)))) h :=
  e_X3_nearOf (b_X3_nearOf_0 (fun q => absurd q (nI_pos (by omega))) (fun _ => b_X3_nearOf_4 (fun q => absurd q (nI_ge (a := v) (b := 10) hv (by decide))) (fun _ => b_X3_nearOf_10 F.1 rfl F.2.1 (nI_pos (by omega)) (by rw [cl_nI (by omega)]; exact ar_at _ hv) (b_X3_nearOf_20 ⟨rfl, rfl⟩))))
theorem s_degree (F : FO h f a b n g w) {v : Nat} (hv : v < 10) : MSE m_X3_degree (d + 1) [.ref f, .int (nI v)] h (some (.int (nI (pc (g v))))) h :=
  e_X3_degree (b_X3_degree_0 F.1 (s_nearOf F hv) (s_bitCount (F.lt v)) ⟨rfl, rfl⟩)
theorem s_hasEdge (F : FO h f a b n g w) {u v : Nat} (hu : u < 10) (hv : v < n) : MSE m_X3_hasEdge (d + 1) [.ref f, .int (nI u), .int (nI v)] h (some (.int (nI (if (g u).testBit v = true then 1 else 0)))) h := by
  have h1 := F.le
  have h2 := F.lt u
  refine e_X3_hasEdge (b_X3_hasEdge_0 F.1 (s_isVertex F hv) (fun q => absurd q (by decide)) (fun _ => b_X3_hasEdge_8 F.1 (s_nearOf F hu) (s_holds (by omega) (by omega)) (fun q => b_X3_hasEdge_24 (b_X3_hasEdge_25 (by decide) ⟨?_, rfl⟩)) (fun q => b_X3_hasEdge_20 (b_X3_hasEdge_25 (by decide) ⟨?_, rfl⟩))))
  · rw [h01.mp q]; rfl
  · cases hb : (g u).testBit v
    · exact absurd (h01.mpr hb) q
    · rfl
theorem up_lt {g : Nat → Nat} {k i x : Nat} (hg : ∀ j, g j < k) (hx : x < k) : ∀ j, up1 g i x j < k := fun j => by
  unfold up1; split
  · exact hx
  · exact hg j
theorem or_lt {x y : Nat} (hx : x < 1024) (hy : y < 1024) : x ||| y < 1024 := Nat.or_lt_two_pow (n := 10) hx hy
theorem pow_lt {v : Nat} (h : v < 10) : 2 ^ v < 1024 := Nat.pow_lt_pow_right (a := 2) (m := v) (n := 10) (by decide) h
/-- the edge between u and v comes -/
def jn (g : Nat → Nat) (u v : Nat) : Nat → Nat := up1 (up1 g u (g u ||| 2 ^ v)) v (up1 g u (g u ||| 2 ^ v) v ||| 2 ^ u)
theorem jn_lt {g : Nat → Nat} {u v : Nat} (hg : ∀ j, g j < 1024) (hu : u < 10) (hv : v < 10) : ∀ j, jn g u v j < 1024 :=
  up_lt (up_lt hg (or_lt (hg u) (pow_lt hv))) (or_lt (up_lt hg (or_lt (hg u) (pow_lt hv)) v) (pow_lt hu))
/-- it goes -/
def pt (g : Nat → Nat) (u v : Nat) : Nat → Nat := up1 (up1 g u (df (g u) (2 ^ v))) v (df (up1 g u (df (g u) (2 ^ v)) v) (2 ^ u))
theorem pt_lt {g : Nat → Nat} {u v : Nat} (hg : ∀ j, g j < 1024) : ∀ j, pt g u v j < 1024 :=
  up_lt (up_lt hg (df_lt (k := 10) (hg u))) (df_lt (k := 10) (up_lt hg (df_lt (k := 10) (hg u)) v))
theorem ar_up {n : Nat} {g : Nat → Nat} {i x : Nat} : ar n (up1 (fun j => nI (g j)) i (nI x)) = ar n (fun j => nI (up1 g i x j)) := ar_ext (fun j _ => by
  unfold up1; split <;> rfl)
theorem s_join (F : FO h f a b n g w) {u v : Nat} (hu : u < n) (hv : v < n) (huv : u ≠ v) : MSE m_X3_join (d + 1) [.ref f, .int (nI u), .int (nI v)] h none (h.set a (100, ar 10 (fun i => nI (jn g u v i)))) := by
  have hn := F.le
  have e1 : (h.set a (100, (ar 10 (fun i => nI (g i))).set (nI u).toNatClampNeg (.int (nI (g u) ||| (1 <<< (nI v &&& 31)))))) = h.set a (100, ar 10 (fun i => nI (up1 g u (g u ||| 2 ^ v) i))) := by
    rw [cl_nI (by omega), i_shl1 (by omega), i_or, ar_set, ar_up]
  refine e_X3_join (b_X3_join_0 F.1 (s_isVertex F hu) (fun q => absurd q (by decide)) (fun _ => b_X3_join_8 F.1 (s_isVertex F hv) (fun q => absurd q (by decide)) (fun _ => b_X3_join_16 (fun q => absurd ((i_eq (by omega) (by omega)).mp q) huv) (fun _ => ?_))))
  have hg1 : ∀ i, up1 g u (g u ||| 2 ^ v) i < 1024 := up_lt F.2.2.2.2.2 (or_lt (F.lt u) (pow_lt (by omega)))
  have F2 := F.near hg1
  refine b_X3_join_21 (x5 := nI (g u)) (x15 := nI (up1 g u (g u ||| 2 ^ v) v)) F.1 rfl F.2.1 (nI_pos (by omega)) (by rw [cl_nI (by omega)]; exact ar_at _ (by omega)) F.2.1 (nI_pos (by omega)) (by rw [cl_nI (by omega), ar_len]; omega) (by rw [e1]; exact F2.1) rfl (by rw [e1]; exact F2.2.1) (nI_pos (by omega)) (by rw [cl_nI (by omega)]; exact ar_at _ (by omega)) (by rw [e1]; exact F2.2.1) (nI_pos (by omega)) (by rw [cl_nI (by omega), ar_len]; omega) (b_X3_join_45 ⟨rfl, ?_⟩)
  rw [e1, hset_hset, cl_nI (by omega), i_shl1 (by omega), i_or, ar_set, ar_up]; rfl
end
