section
variable {d m n t k : Nat} {c c' : Nat → List Value} {z : Nat → Int32} {g w : Nat → Nat} {x y u : Int32}
variable {nx ch kp im om : Nat} {Hg Hw Sg Sw : Nat → Nat → Nat} {a fi fo : Nat → Int32}
/-! both sides at a call -/
def INV (c : Nat → List Value) : Prop := ∃ n g w nx ch kp Hg Hw Sg Sw a im fi om fo, C0 c n g w nx ch kp Hg Hw Sg Sw a im fi om fo ∧ M0 c n g w ch kp Hg Hw Sg Sw a im fi om fo ∧ D0 n w ch kp Hg Hw Sg Sw
def TH (c : Nat → List Value) (t : Nat) : Prop := ∃ z, c 70 = moL z ∧ z 0 = nI t
/-- both answer alike, or both throw alike -/
def PAIR (M9 M10 : ab_M) (d : Nat) (as : List Value) (kind : Nat → Nat) (c : Nat → List Value) : Prop :=
  (∃ c1 c2 v, MSE M9 d (.ref 0 :: as) (hp c) (some v) (hp c1) ∧ MSE M10 d (.ref 70 :: as) (hp c1) (some v) (hp c2) ∧ TH c2 0 ∧ INV c2) ∨ (∃ e c2 v, MSX M9 d (.ref 0 :: as) (hp c) e (hp c) ∧ MSE M10 d (.ref 70 :: as) (hp c) (some v) (hp c2) ∧ TH c2 (kind e) ∧ kind e ≠ 0 ∧ INV c2)
theorem QF.H (R : RF c n g w) (Q : QF c c' t) : TH c' t := by
  obtain ⟨z, hz, -⟩ := R.Z
  obtain ⟨-, -, x, q3⟩ := Q
  rw [hz, moS10, moS0] at q3
  exact ⟨_, q3, up1_same _ _ _⟩
theorem pq {M9 M10 : ab_M} {D : Nat} {as : List Value} {kind : Nat → Nat} {v : Value} {c1 : Nat → List Value} (M : M0 c n g w ch kp Hg Hw Sg Sw a im fi om fo) (Dt : D0 n w ch kp Hg Hw Sg Sw) (m9 : MSE M9 D (.ref 0 :: as) (hp c) (some v) (hp c1)) (S1 : C0 c1 n g w nx ch kp Hg Hw Sg Sw a im fi om fo) (fr : ∀ i, 69 < i → c1 i = c i) (m10 : RF c1 n g (wq n w) → ∃ c2, MSE M10 D (.ref 70 :: as) (hp c1) (some v) (hp c2) ∧ QF c1 c2 0) : PAIR M9 M10 D as kind c := by
  have M1 := M.cls fr
  obtain ⟨c2, m, Q⟩ := m10 M1.1
  exact Or.inl ⟨c1, c2, v, m9, m, Q.H M1.1, n, g, w, nx, ch, kp, Hg, Hw, Sg, Sw, a, im, fi, om, fo, S1.qf Q, M1.q Q, Dt⟩
theorem px {M9 M10 : ab_M} {D e : Nat} {as : List Value} {kind : Nat → Nat} {v : Value} (S : C0 c n g w nx ch kp Hg Hw Sg Sw a im fi om fo) (M : M0 c n g w ch kp Hg Hw Sg Sw a im fi om fo) (Dt : D0 n w ch kp Hg Hw Sg Sw) (m9 : MSX M9 D (.ref 0 :: as) (hp c) e (hp c)) (m10 : ∃ c2, MSE M10 D (.ref 70 :: as) (hp c) (some v) (hp c2) ∧ QF c c2 (kind e)) (hk : kind e ≠ 0) : PAIR M9 M10 D as kind c := by
  obtain ⟨c2, m, Q⟩ := m10
  exact Or.inr ⟨e, c2, v, m9, m, Q.H M.1, hk, n, g, w, nx, ch, kp, Hg, Hw, Sg, Sw, a, im, fi, om, fo, S.qf Q, M.q Q, Dt⟩
theorem p_distance (I : INV c) : PAIR m_X9_distance m_X10_distance (d + 20) [.int x, .int y] (fun e => if e = 1 then 1 else 0) c := by
  obtain ⟨n, g, w, nx, ch, kp, Hg, Hw, Sg, Sw, a, im, fi, om, fo, S, M, Dt⟩ := I
  have N := S.1.1
  cases hx : isV n x with
  | false => exact px S M Dt (t_distanceX1 (d := d + 17) N (isV_no hx)) (q_distanceX (d := d + 17) M.1 (Or.inl hx)) (by decide)
  | true =>
    obtain ⟨v, hv, rfl⟩ := isV_of hx
    cases hy : isV n y with
    | false => exact px S M Dt (t_distanceX2 (d := d + 17) N hv (isV_no hy)) (q_distanceX (d := d + 17) M.1 (Or.inr hy)) (by decide)
    | true =>
      obtain ⟨b, hb, rfl⟩ := isV_of hy
      exact pq M Dt (t_distance (d := d + 17) N hv hb) S (fun _ _ => rfl) (fun R => q_distance (d := d + 17) R hv hb)
end
