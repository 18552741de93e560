section
variable {d n k : Nat} {c : Nat → List Value} {g w : Nat → Nat} {V : Nat → Nat} {W : Nat → Nat → Int32}
theorem t_vertex0 (N : NB c n g w) {v : Nat} (hv : v < n)  : MSE m_X9_vertex (d + 3) [.ref 0, .int (nI v), .int 0] (hp c) (some (.int (nI (pc (g v))))) (hp c) := by
  have hn := N.le
  have hcm : comp g n v < 1024 := rc_lt N.F.2.2.2.2.2 (by omega)
  exact e_X9_vertex (b_X9_vertex_0 N.O (s_needVertex N hv) (fun _ => b_X9_vertex_52 N.O rfl N.F.1 (s_degree N.F (by omega)) ⟨rfl, rfl⟩) (fun q => absurd q (by decide)) (fun q => absurd q (by decide)) (fun q => absurd q (by decide)) (fun q => absurd q (by decide)) (fun q => absurd q (by decide)) (fun q => absurd q (by decide)) (fun q => absurd q (by decide)) (fun q => absurd rfl (q 0 (by decide))))
theorem t_vertex1 (N : NB c n g w) {v : Nat} (hv : v < n)  : MSE m_X9_vertex (d + 3) [.ref 0, .int (nI v), .int 1] (hp c) (some (.int (nI (w v)))) (hp c) := by
  have hn := N.le
  have hcm : comp g n v < 1024 := rc_lt N.F.2.2.2.2.2 (by omega)
  exact e_X9_vertex (b_X9_vertex_0 N.O (s_needVertex N hv) (fun q => absurd q (by decide)) (fun _ => b_X9_vertex_61 N.O rfl N.F.1 (s_weightOf N.F hv) ⟨rfl, rfl⟩) (fun q => absurd q (by decide)) (fun q => absurd q (by decide)) (fun q => absurd q (by decide)) (fun q => absurd q (by decide)) (fun q => absurd q (by decide)) (fun q => absurd q (by decide)) (fun q => absurd rfl (q 1 (by decide))))
theorem t_vertex2 (N : NB c n g w) {v : Nat} (hv : v < n) {l : Nat} (hl : low (comp g n v) = some l) : MSE m_X9_vertex (d + 5) [.ref 0, .int (nI v), .int 2] (hp c) (some (.int (nI (cnU (isR g n) l)))) (hp c) := by
  have hn := N.le
  have hcm : comp g n v < 1024 := rc_lt N.F.2.2.2.2.2 (by omega)
  exact e_X9_vertex (b_X9_vertex_0 N.O (s_needVertex N hv) (fun q => absurd q (by decide)) (fun q => absurd q (by decide)) (fun _ => b_X9_vertex_70 N.O rfl N.F.1 (s_componentNumber N.F hv hl) ⟨rfl, rfl⟩) (fun q => absurd q (by decide)) (fun q => absurd q (by decide)) (fun q => absurd q (by decide)) (fun q => absurd q (by decide)) (fun q => absurd q (by decide)) (fun q => absurd rfl (q 2 (by decide))))
theorem t_vertex3 (N : NB c n g w) {v : Nat} (hv : v < n)  : MSE m_X9_vertex (d + 4) [.ref 0, .int (nI v), .int 3] (hp c) (some (.int (nI (pc (comp g n v))))) (hp c) := by
  have hn := N.le
  have hcm : comp g n v < 1024 := rc_lt N.F.2.2.2.2.2 (by omega)
  exact e_X9_vertex (b_X9_vertex_0 N.O (s_needVertex N hv) (fun q => absurd q (by decide)) (fun q => absurd q (by decide)) (fun q => absurd q (by decide)) (fun _ => b_X9_vertex_79 N.O rfl N.F.1 (s_componentWith N.F (by omega)) (s_bitCount hcm) ⟨rfl, rfl⟩) (fun q => absurd q (by decide)) (fun q => absurd q (by decide)) (fun q => absurd q (by decide)) (fun q => absurd q (by decide)) (fun q => absurd rfl (q 3 (by decide))))
theorem t_vertex4 (N : NB c n g w) {v : Nat} (hv : v < n)  : MSE m_X9_vertex (d + 3) [.ref 0, .int (nI v), .int 4] (hp c) (some (.int (nI (ec g n v)))) (hp c) := by
  have hn := N.le
  have hcm : comp g n v < 1024 := rc_lt N.F.2.2.2.2.2 (by omega)
  exact e_X9_vertex (b_X9_vertex_0 N.O (s_needVertex N hv) (fun q => absurd q (by decide)) (fun q => absurd q (by decide)) (fun q => absurd q (by decide)) (fun q => absurd q (by decide)) (fun _ => b_X9_vertex_91 N.O rfl N.F.1 (s_eccentricity N.F (by omega) N.one) ⟨rfl, rfl⟩) (fun q => absurd q (by decide)) (fun q => absurd q (by decide)) (fun q => absurd q (by decide)) (fun q => absurd rfl (q 4 (by decide))))
theorem t_vertex5 (N : NB c n g w) {v : Nat} (hv : v < n) {n' r : Nat} {g' w' : Nat → Nat} (B : PB c n' g' w') (hr : r < 10) (h1 : ∀ j, j < r → pc (dlI g n j v) ≠ 0) (h2 : pc (dlI g n r v) = 0) : MSE m_X9_vertex (d + 4) [.ref 0, .int (nI v), .int 5] (hp c) (some (.int (nI r))) (hp (cPr c n (dlI g n r) w)) := by
  have hn := N.le
  have hcm : comp g n v < 1024 := rc_lt N.F.2.2.2.2.2 (by omega)
  exact e_X9_vertex (b_X9_vertex_0 N.O (s_needVertex N hv) (fun q => absurd q (by decide)) (fun q => absurd q (by decide)) (fun q => absurd q (by decide)) (fun q => absurd q (by decide)) (fun q => absurd q (by decide)) (fun _ => b_X9_vertex_100 N.O (t_roundOf N B hv hr h1 h2) ⟨rfl, rfl⟩) (fun q => absurd q (by decide)) (fun q => absurd q (by decide)) (fun q => absurd rfl (q 5 (by decide))))
theorem t_vertex6 (N : NB c n g w) {v : Nat} (hv : v < n)  : MSE m_X9_vertex (d + 3) [.ref 0, .int (nI v), .int 6] (hp c) (some (.int (nI (g v)))) (hp c) := by
  have hn := N.le
  have hcm : comp g n v < 1024 := rc_lt N.F.2.2.2.2.2 (by omega)
  exact e_X9_vertex (b_X9_vertex_0 N.O (s_needVertex N hv) (fun q => absurd q (by decide)) (fun q => absurd q (by decide)) (fun q => absurd q (by decide)) (fun q => absurd q (by decide)) (fun q => absurd q (by decide)) (fun q => absurd q (by decide)) (fun _ => b_X9_vertex_106 N.O rfl N.F.1 (s_nearOf N.F (by omega)) ⟨rfl, rfl⟩) (fun q => absurd q (by decide)) (fun q => absurd rfl (q 6 (by decide))))
theorem t_vertex7 (N : NB c n g w) {v : Nat} (hv : v < n) (X : WX 19 c k V W) : MSE m_X9_vertex (d + 5) [.ref 0, .int (nI v), .int 7] (hp c) (some (.int (nI (ob g n v (V, W)).2))) (hp (cW 19 c k (ob g n v (V, W)).1.2)) := by
  have hn := N.le
  have hcm : comp g n v < 1024 := rc_lt N.F.2.2.2.2.2 (by omega)
  have D := X.D (Or.inl rfl)
  have m1 := s_orbitOf (d := d) N.F D ap19 D.S D.2.2.1 hv
  rw [D.id, hW_hp (Or.inl rfl)] at m1
  exact e_X9_vertex (b_X9_vertex_0 N.O (s_needVertex N hv) (fun q => absurd q (by decide)) (fun q => absurd q (by decide)) (fun q => absurd q (by decide)) (fun q => absurd q (by decide)) (fun q => absurd q (by decide)) (fun q => absurd q (by decide)) (fun q => absurd q (by decide)) (fun _ => b_X9_vertex_115 N.O rfl N.O rfl D.1 m1 ⟨rfl, rfl⟩) (fun q => absurd rfl (q 7 (by decide))))
theorem t_vertexX1 (N : NB c n g w) {x y : Int32} (hx : ∀ v, v < n → x ≠ nI v) : MSX m_X9_vertex (d + 2) [.ref 0, .int x, .int y] (hp c) 1 (hp c) :=
  e_X9_vertex (bx_X9_vertex_0_2 N.O (s_needVertexX N hx) (st_out rfl ⟨rfl, rfl⟩))
theorem t_vertexX2 (N : NB c n g w) {v : Nat} {x : Int32} (hv : v < n) (hx : ∀ i : Nat, i < 8 → ¬ x = Int32.ofNat i) : MSX m_X9_vertex (d + 2) [.ref 0, .int (nI v), .int x] (hp c) 2 (hp c) :=
  e_X9_vertex (b_X9_vertex_0 N.O (s_needVertex N hv) (fun q => absurd q (hx 0 (by decide))) (fun q => absurd q (hx 1 (by decide))) (fun q => absurd q (hx 2 (by decide))) (fun q => absurd q (hx 3 (by decide))) (fun q => absurd q (hx 4 (by decide))) (fun q => absurd q (hx 5 (by decide))) (fun q => absurd q (hx 6 (by decide))) (fun q => absurd q (hx 7 (by decide))) (fun _ => b_X9_vertex_128 ⟨rfl, rfl⟩))
theorem t_component0 (N : NB c n g w) {x : Int32} (h0 : cs g n x ≠ 0)  : MSE m_X9_component (d + 6) [.ref 0, .int x, .int 0] (hp c) (some (.int (nI (cs g n x)))) (hp c) := by
  have hn := N.le
  have hcs : cs g n x < 1024 := cs_lt N.F.2.2.2.2.2 hn
  exact e_X9_component (b_X9_component_0 N.O (s_neededComponent N h0) (fun _ => b_X9_component_48 ⟨rfl, rfl⟩) (fun q => absurd q (by decide)) (fun q => absurd q (by decide)) (fun q => absurd q (by decide)) (fun q => absurd q (by decide)) (fun q => absurd q (by decide)) (fun q => absurd q (by decide)) (fun q => absurd rfl (q 0 (by decide))))
theorem t_component1 (N : NB c n g w) {x : Int32} (h0 : cs g n x ≠ 0)  : MSE m_X9_component (d + 6) [.ref 0, .int x, .int 1] (hp c) (some (.int (nI (mxU (cs g n x) (ec g n) n)))) (hp c) := by
  have hn := N.le
  have hcs : cs g n x < 1024 := cs_lt N.F.2.2.2.2.2 hn
  exact e_X9_component (b_X9_component_0 N.O (s_neededComponent N h0) (fun q => absurd q (by decide)) (fun _ => b_X9_component_50 N.O rfl N.F.1 (s_diameter N.F hcs N.one) ⟨rfl, rfl⟩) (fun q => absurd q (by decide)) (fun q => absurd q (by decide)) (fun q => absurd q (by decide)) (fun q => absurd q (by decide)) (fun q => absurd q (by decide)) (fun q => absurd rfl (q 1 (by decide))))
theorem t_component2 (N : NB c n g w) {x : Int32} (h0 : cs g n x ≠ 0) (hw : ∀ i, w i ≤ 99) : MSE m_X9_component (d + 6) [.ref 0, .int x, .int 2] (hp c) (some (.int (nI (lbU (cs g n x) (ms g w n 0) n).2))) (hp c) := by
  have hn := N.le
  have hcs : cs g n x < 1024 := cs_lt N.F.2.2.2.2.2 hn
  exact e_X9_component (b_X9_component_0 N.O (s_neededComponent N h0) (fun q => absurd q (by decide)) (fun q => absurd q (by decide)) (fun _ => b_X9_component_59 N.O rfl N.F.1 (s_leastBy (by' := 0) N.F hcs (by decide) hw) ⟨rfl, rfl⟩) (fun q => absurd q (by decide)) (fun q => absurd q (by decide)) (fun q => absurd q (by decide)) (fun q => absurd q (by decide)) (fun q => absurd rfl (q 2 (by decide))))
theorem t_component3 (N : NB c n g w) {x : Int32} (h0 : cs g n x ≠ 0) (hw : ∀ i, w i ≤ 99) : MSE m_X9_component (d + 6) [.ref 0, .int x, .int 3] (hp c) (some (.int (nI (lbU (cs g n x) (ms g w n 1) n).2))) (hp c) := by
  have hn := N.le
  have hcs : cs g n x < 1024 := cs_lt N.F.2.2.2.2.2 hn
  exact e_X9_component (b_X9_component_0 N.O (s_neededComponent N h0) (fun q => absurd q (by decide)) (fun q => absurd q (by decide)) (fun q => absurd q (by decide)) (fun _ => b_X9_component_69 N.O rfl N.F.1 (s_leastBy (by' := 1) N.F hcs (by decide) hw) ⟨rfl, rfl⟩) (fun q => absurd q (by decide)) (fun q => absurd q (by decide)) (fun q => absurd q (by decide)) (fun q => absurd rfl (q 3 (by decide))))
theorem t_component4 (N : NB c n g w) {x : Int32} (h0 : cs g n x ≠ 0) (hw : ∀ i, w i ≤ 99) : MSE m_X9_component (d + 6) [.ref 0, .int x, .int 4] (hp c) (some (.int (nI (lbU (cs g n x) (ms g w n 2) n).2))) (hp c) := by
  have hn := N.le
  have hcs : cs g n x < 1024 := cs_lt N.F.2.2.2.2.2 hn
  exact e_X9_component (b_X9_component_0 N.O (s_neededComponent N h0) (fun q => absurd q (by decide)) (fun q => absurd q (by decide)) (fun q => absurd q (by decide)) (fun q => absurd q (by decide)) (fun _ => b_X9_component_79 N.O rfl N.F.1 (s_leastBy (by' := 2) N.F hcs (by decide) hw) ⟨rfl, rfl⟩) (fun q => absurd q (by decide)) (fun q => absurd q (by decide)) (fun q => absurd rfl (q 4 (by decide))))
theorem t_component5 (N : NB c n g w) (X : WX 19 c k V W) {K : Nat} (h0 : cs g n (nI K) ≠ 0) (hK : K < 10) (hk0 : csOk g n (K + 1)) : MSE m_X9_component (d + 6) [.ref 0, .int (nI K), .int 5] (hp c) (some (.int (clU g n (V, W) (K + 1)).2.2)) (hp (cW 19 c (clU g n (V, W) (K + 1)).2.1 (clU g n (V, W) (K + 1)).1.2)) := by
  have D := X.D (Or.inl rfl)
  have m1 := s_classOf (d := d) N.F D ap19 (K := K) hK hk0
  rw [hW_hp (Or.inl rfl)] at m1
  exact e_X9_component (b_X9_component_0 N.O (s_neededComponent N h0) (fun q => absurd q (by decide)) (fun q => absurd q (by decide)) (fun q => absurd q (by decide)) (fun q => absurd q (by decide)) (fun q => absurd q (by decide)) (fun _ => b_X9_component_89 N.O rfl N.O rfl D.1 m1 ⟨rfl, rfl⟩) (fun q => absurd q (by decide)) (fun q => absurd rfl (q 5 (by decide))))
theorem t_component6 (N : NB c n g w) {x : Int32} (h0 : cs g n x ≠ 0)  : MSE m_X9_component (d + 6) [.ref 0, .int x, .int 6] (hp c) (some (.int (nI (pc (stU (fun v => (cs g n x).testBit v && decide (pc (g v) = 1)) n))))) (hp c) := by
  have hn := N.le
  have hcs : cs g n x < 1024 := cs_lt N.F.2.2.2.2.2 hn
  exact e_X9_component (b_X9_component_0 N.O (s_neededComponent N h0) (fun q => absurd q (by decide)) (fun q => absurd q (by decide)) (fun q => absurd q (by decide)) (fun q => absurd q (by decide)) (fun q => absurd q (by decide)) (fun q => absurd q (by decide)) (fun _ => b_X9_component_102 N.O rfl N.F.1 (s_countOfDegree (k0 := 1) N.F hcs (by decide)) ⟨rfl, rfl⟩) (fun q => absurd rfl (q 6 (by decide))))
theorem t_componentX1 (N : NB c n g w) {x y : Int32} (h0 : cs g n x = 0) : MSX m_X9_component (d + 6) [.ref 0, .int x, .int y] (hp c) 1 (hp c) :=
  e_X9_component (bx_X9_component_0_2 N.O (s_neededComponentX N h0) (st_out rfl ⟨rfl, rfl⟩))
theorem t_componentX2 (N : NB c n g w) {x y : Int32} (h0 : cs g n x ≠ 0) (hx : ∀ i : Nat, i < 7 → ¬ y = Int32.ofNat i) : MSX m_X9_component (d + 6) [.ref 0, .int x, .int y] (hp c) 2 (hp c) :=
  e_X9_component (b_X9_component_0 N.O (s_neededComponent N h0) (fun q => absurd q (hx 0 (by decide))) (fun q => absurd q (hx 1 (by decide))) (fun q => absurd q (hx 2 (by decide))) (fun q => absurd q (hx 3 (by decide))) (fun q => absurd q (hx 4 (by decide))) (fun q => absurd q (hx 5 (by decide))) (fun q => absurd q (hx 6 (by decide))) (fun _ => b_X9_component_112 ⟨rfl, rfl⟩))
end
