theorem sw_ldcIw {sc : Option (List Int32)} {M : ab_M} {d rc rs pc : Nat} {ls : List (Option Value)} {st : List Value} {h : ab_H} {P : ab_O → ab_H → Prop} {idx : Nat} {v : Int32} (hd : decode M.2.1 pc = .ok (.ldc_w idx, 3)) (hw : Cond.constant M.1.cls idx v ∈ ab_big) (k : SW sc M d rc rs (pc + 3) ls (.int v :: st) h P) : SW sc M d rc rs pc ls st h P := by
  intro p l e R s m args below meth c Q D dA τ A σ0 n0 Cm Sm hX σ H locs cells slots lv hY hl hol hos
  exact lv_ldcw hX.1 hX.2.2.1 hX.2.2.2.2.2.2.1 (hX.2.2.2.2.2.2.2.2.2.1 _ hw) hd (k.use hX hY hl hol (ab_okS_cons trivial hos))
