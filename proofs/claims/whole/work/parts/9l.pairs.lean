section
variable {d m n t k : Nat} {c c' : Nat → List Value} {z : Nat → Int32} {g w : Nat → Nat} {x y u : Int32}
variable {nx ch kp im om : Nat} {Hg Hw Sg Sw : Nat → Nat → Nat} {a fi fo : Nat → Int32}
/-! both sides at a call -/
def INV (c : Nat → List Value) : Prop := ∃ n g w nx ch kp Hg Hw Sg Sw a im fi om fo, C0 c n g w nx ch kp Hg Hw Sg Sw a im fi om fo ∧ M0 c n g w ch kp Hg Hw Sg Sw a im fi om fo ∧ D0 n w ch kp Hg Hw Sg Sw
def TH (c : Nat → List Value) (t : Nat) : Prop := ∃ z, c 70 = moL z ∧ z 0 = nI t
/-- the value of a method's type -/
def vt (M : ab_M) (v : Value) : Prop := match M.2.2.2.1, v with
  | some .int, .int _ => True
  | some .boolean, .int _ => True
  | some .double, .double x => vf_n64 x
  | some .float, .float x => vf_n32 x ∧ vf_n64 (FP.f2d x) ∧ Op.cmpValue (FP.dcmp (FP.f2d x) (FP.f2d x)) .l = 0
  | _, _ => False
/-- what stands behind both stays -/
def BH (c c' : Nat → List Value) : Prop := ∀ i, 81 < i → c' i = c i
/-- both answer alike, or both throw alike; between the two something behind both may change -/
def PAIR (M9 M10 : ab_M) (d : Nat) (as : List Value) (kind : Nat → Nat) (c : Nat → List Value) : Prop :=
  (∃ c1 v, MSE M9 d (.ref 0 :: as) (hp c) (some v) (hp c1) ∧ vt M10 v ∧ (∀ i, 69 < i → c1 i = c i) ∧ ∀ c1', (∀ i, i < 82 → c1' i = c1 i) → ∃ c2, MSE M10 d (.ref 70 :: as) (hp c1') (some v) (hp c2) ∧ TH c2 0 ∧ INV c2 ∧ BH c1' c2) ∨ (∃ e c2 v, MSX M9 d (.ref 0 :: as) (hp c) e (hp c) ∧ vt M10 v ∧ MSE M10 d (.ref 70 :: as) (hp c) (some v) (hp c2) ∧ TH c2 (kind e) ∧ kind e ≠ 0 ∧ INV c2 ∧ BH c c2)
theorem QF.H (R : RF c n g w) (Q : QF c c' t) : TH c' t := by
  obtain ⟨z, hz, -⟩ := R.Z
  obtain ⟨-, -, x, q3⟩ := Q
  rw [hz, moS10, moS0] at q3
  exact ⟨_, q3, up1_same _ _ _⟩
theorem QF.B (Q : QF c c' t) : BH c c' := fun i hi => Q.1 i (by omega) (by omega) (by omega) (by omega) (by omega) (by omega)
theorem pqM {M9 M10 : ab_M} {D : Nat} {as : List Value} {kind : Nat → Nat} {v : Value} {c1 : Nat → List Value} (M : M0 c n g w ch kp Hg Hw Sg Sw a im fi om fo) (Dt : D0 n w ch kp Hg Hw Sg Sw) (m9 : MSE M9 D (.ref 0 :: as) (hp c) (some v) (hp c1)) (S1 : C0 c1 n g w nx ch kp Hg Hw Sg Sw a im fi om fo) (fr : ∀ i, 69 < i → c1 i = c i) (m10 : ∀ {c1 : Nat → List Value}, M0 c1 n g w ch kp Hg Hw Sg Sw a im fi om fo → ∃ c2, MSE M10 D (.ref 70 :: as) (hp c1) (some v) (hp c2) ∧ QF c1 c2 0) (hv : vt M10 v := by trivial) : PAIR M9 M10 D as kind c := by
  refine Or.inl ⟨c1, v, m9, hv, fr, fun c1' h => ?_⟩
  have M1 : M0 c1' n g w ch kp Hg Hw Sg Sw a im fi om fo := M.cls (fun i h1 h2 => (h i h2).trans (fr i h1))
  obtain ⟨c2, m, Q⟩ := m10 M1
  exact ⟨c2, m, Q.H M1.1, ⟨n, g, w, nx, ch, kp, Hg, Hw, Sg, Sw, a, im, fi, om, fo, (S1.same (fun i hi => h i (by omega))).qf Q, M1.q Q, Dt⟩, Q.B⟩
theorem pq {M9 M10 : ab_M} {D : Nat} {as : List Value} {kind : Nat → Nat} {v : Value} {c1 : Nat → List Value} (M : M0 c n g w ch kp Hg Hw Sg Sw a im fi om fo) (Dt : D0 n w ch kp Hg Hw Sg Sw) (m9 : MSE M9 D (.ref 0 :: as) (hp c) (some v) (hp c1)) (S1 : C0 c1 n g w nx ch kp Hg Hw Sg Sw a im fi om fo) (fr : ∀ i, 69 < i → c1 i = c i) (m10 : ∀ {c1 : Nat → List Value}, RF c1 n g (wq n w) → ∃ c2, MSE M10 D (.ref 70 :: as) (hp c1) (some v) (hp c2) ∧ QF c1 c2 0) (hv : vt M10 v := by trivial) : PAIR M9 M10 D as kind c := pqM M Dt m9 S1 fr (fun M1 => m10 M1.1) hv
theorem px {M9 M10 : ab_M} {D e : Nat} {as : List Value} {kind : Nat → Nat} {v : Value} (S : C0 c n g w nx ch kp Hg Hw Sg Sw a im fi om fo) (M : M0 c n g w ch kp Hg Hw Sg Sw a im fi om fo) (Dt : D0 n w ch kp Hg Hw Sg Sw) (m9 : MSX M9 D (.ref 0 :: as) (hp c) e (hp c)) (m10 : ∃ c2, MSE M10 D (.ref 70 :: as) (hp c) (some v) (hp c2) ∧ QF c c2 (kind e)) (hk : kind e ≠ 0) (hv : vt M10 v := by trivial) : PAIR M9 M10 D as kind c := by
  obtain ⟨c2, m, Q⟩ := m10
  exact Or.inr ⟨e, c2, v, m9, hv, m, Q.H M.1, hk, ⟨n, g, w, nx, ch, kp, Hg, Hw, Sg, Sw, a, im, fi, om, fo, S.qf Q, M.q Q, Dt⟩, Q.B⟩
theorem p_distance (I : INV c) : PAIR m_X9_distance m_X10_distance (d + 20) [.int x, .int y] (fun e => if e = 1 then 1 else 0) c := by
  obtain ⟨n, g, w, nx, ch, kp, Hg, Hw, Sg, Sw, a, im, fi, om, fo, S, M, Dt⟩ := I
  have N := S.1.1
  cases hx : isV n x with
  | false => exact px S M Dt (t_distanceX1 (d := d + 17) N (isV_no hx)) (q_distanceX (d := d + 17) M.1 (Or.inl hx)) (by decide)
  | true =>
    obtain ⟨v, hv, rfl⟩ := isV_of hx
    cases hy : isV n y with
    | false => exact px S M Dt (t_distanceX2 (d := d + 17) N hv (isV_no hy)) (q_distanceX (d := d + 17) M.1 (Or.inr hy)) (by decide)
    | true =>
      obtain ⟨b, hb, rfl⟩ := isV_of hy
      exact pq M Dt (t_distance (d := d + 17) N hv hb) S (fun _ _ => rfl) (fun R => q_distance (d := d + 17) R hv hb)
end
