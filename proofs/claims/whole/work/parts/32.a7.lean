section
variable {sc : Option (List Int32)} {d rc rs : Nat} {h : ab_H} {P : ab_O → ab_H → Prop}
theorem b_J7_fill_53178_20  (hP : P (.inl none) h) : SW sc m_J7_fill_53178 d rc rs 20 [none, none, none, none] [] h P := by
  exact sw_ret (v := none) dJ7_fill_53178_20 rt_v hP
end
