/-! stores beside a text -/
section
variable {sc : Option (List Int32)} {M : ab_M} {d rc rs pc : Nat} {ls : List (Option Value)} {st : List Value} {h : ab_H} {P : ab_O → ab_H → Prop}
theorem ab_stT {p : Program} {l : Launch} {e : Env} {R : Room} {s : State} {m : MethodId} {args : Array Value} {below : List Frame} {meth : Method} {c : Code} {Q : State → Prop} {D : va_G} {dA : Nat → ClassId} {τ : Nat → Value} {A : Nat → Prop} {σ0 : Nat → Nat} {n0 Cm Sm : Nat} (hX : ab_X sc M d P p l e R s m args below meth c Q D dA τ A σ0 n0 Cm Sm) {σ : Nat → Nat} {i t : Nat} (hs : ls[i]? = some (some (.retAddr t))) (ht : t < 6) : ∀ (k : Nat) (u : Value), i + 1 = k + 1 → ls[k]? = some (some u) → (ab_v σ τ u).category = 1 := by
  intro k u hk hu
  have : i = k := by omega
  subst this
  rw [hs] at hu
  cases hu
  obtain ⟨a, e1⟩ := ab_G.txt hX.2.2.2.2.2.2.2.2.2.2.1 (Or.inl ht)
  show (τ t).category = 1
  rw [e1]; rfl
theorem sw_istore_nt {i : Fin 4} {j t : Nat} {x : Int32} (hd : decode M.2.1 pc = .ok (.istore_n i, 1)) (hn : (i : Nat) < M.2.2.1) (hi : (i : Nat) = j + 1) (hs : ls[j]? = some (some (.retAddr t))) (ht : t < 6) (k : SW sc M d rc rs (pc + 1) (ls.set i (some (.int x))) st h P) : SW sc M d rc rs pc ls (.int x :: st) h P := by
  intro p l e R s m args below meth c Q D dA τ A σ0 n0 Cm Sm hX σ H locs cells slots lv hY hl hol hos
  exact lv_istore_n hX.1 hX.2.2.1 hd rfl hl hn rfl (fun ls' hl' => k.use hX hY (ab_l_set1 rfl (fun k u hk hu => ab_stT hX hs ht k u (by omega) hu) hl') (ab_okL_set hol trivial) (ab_okS_tl hos))
theorem sw_iinct {i j t : Nat} {n : Int} {x v : Int32} (hd : decode M.2.1 pc = .ok (.iinc i n, 3)) (hv : ls[i]? = some (some (.int x))) (he : x + Int32.ofInt n = v) (hn : i < M.2.2.1) (hi : i = j + 1) (hs : ls[j]? = some (some (.retAddr t))) (ht : t < 6) (k : SW sc M d rc rs (pc + 3) (ls.set i (some (.int v))) st h P) : SW sc M d rc rs pc ls st h P := by
  intro p l e R s m args below meth c Q D dA τ A σ0 n0 Cm Sm hX σ H locs cells slots lv hY hl hol hos
  have hl2 : lv_has lv M.2.2.1 ((i, .int x) :: ab_l σ τ ls) := ⟨hl.1, hl.2.1, fun q hq => by
    rcases List.mem_cons.mp hq with rfl | hq
    · exact ab_l_at hl hv
    · exact hl.2.2 q hq⟩
  refine lv_iinc (k := 0) hX.1 hX.2.2.1 hd hl2 rfl he hn rfl (fun ls' hl' => k.use hX hY (ab_l_set1 rfl (fun k u hk hu => ab_stT hX hs ht k u (by omega) hu) ⟨hl'.1, hl'.2.1, fun q hq => hl'.2.2 q ?_⟩) (ab_okL_set hol trivial) hos)
  rcases List.mem_cons.mp hq with rfl | hq
  · exact List.mem_cons_self
  · obtain ⟨h1, h2⟩ := List.mem_filter.mp hq
    exact List.mem_cons_of_mem _ (List.mem_filter.mpr ⟨List.mem_cons_of_mem _ h1, h2⟩)
end
