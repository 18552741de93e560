section AB1
variable {sc : Option (List Int32)} {M : ab_M} {d rc rs pc : Nat} {ls : List (Option Value)} {st : List Value} {h : ab_H} {P : ab_O → ab_H → Prop}
theorem sw_iadd {x y : Int32} (hd : decode M.2.1 pc = .ok (.iadd, 1)) (k : SW sc M d rc rs (pc + 1) ls (.int (x + y) :: st) h P) : SW sc M d rc rs pc ls (.int y :: .int x :: st) h P := by
  intro p l e R s m args below meth c Q D dA τ A σ0 n0 Cm Sm hX σ H locs cells slots lv hY hl hol hos
  exact lv_iadd hX.1 hX.2.2.1 hd  (k.use hX hY hl hol (ab_okS_cons (trivial) (ab_okS_tl (ab_okS_tl hos))))
theorem sw_isub {x y : Int32} (hd : decode M.2.1 pc = .ok (.isub, 1)) (k : SW sc M d rc rs (pc + 1) ls (.int (x - y) :: st) h P) : SW sc M d rc rs pc ls (.int y :: .int x :: st) h P := by
  intro p l e R s m args below meth c Q D dA τ A σ0 n0 Cm Sm hX σ H locs cells slots lv hY hl hol hos
  exact lv_isub hX.1 hX.2.2.1 hd  (k.use hX hY hl hol (ab_okS_cons (trivial) (ab_okS_tl (ab_okS_tl hos))))
theorem sw_imul {x y : Int32} (hd : decode M.2.1 pc = .ok (.imul, 1)) (k : SW sc M d rc rs (pc + 1) ls (.int (x * y) :: st) h P) : SW sc M d rc rs pc ls (.int y :: .int x :: st) h P := by
  intro p l e R s m args below meth c Q D dA τ A σ0 n0 Cm Sm hX σ H locs cells slots lv hY hl hol hos
  exact lv_imul hX.1 hX.2.2.1 hd  (k.use hX hY hl hol (ab_okS_cons (trivial) (ab_okS_tl (ab_okS_tl hos))))
theorem sw_iand {x y : Int32} (hd : decode M.2.1 pc = .ok (.iand, 1)) (k : SW sc M d rc rs (pc + 1) ls (.int (x &&& y) :: st) h P) : SW sc M d rc rs pc ls (.int y :: .int x :: st) h P := by
  intro p l e R s m args below meth c Q D dA τ A σ0 n0 Cm Sm hX σ H locs cells slots lv hY hl hol hos
  exact lv_iand hX.1 hX.2.2.1 hd  (k.use hX hY hl hol (ab_okS_cons (trivial) (ab_okS_tl (ab_okS_tl hos))))
theorem sw_ior {x y : Int32} (hd : decode M.2.1 pc = .ok (.ior, 1)) (k : SW sc M d rc rs (pc + 1) ls (.int (x ||| y) :: st) h P) : SW sc M d rc rs pc ls (.int y :: .int x :: st) h P := by
  intro p l e R s m args below meth c Q D dA τ A σ0 n0 Cm Sm hX σ H locs cells slots lv hY hl hol hos
  exact lv_ior hX.1 hX.2.2.1 hd  (k.use hX hY hl hol (ab_okS_cons (trivial) (ab_okS_tl (ab_okS_tl hos))))
theorem sw_ixor {x y : Int32} (hd : decode M.2.1 pc = .ok (.ixor, 1)) (k : SW sc M d rc rs (pc + 1) ls (.int (x ^^^ y) :: st) h P) : SW sc M d rc rs pc ls (.int y :: .int x :: st) h P := by
  intro p l e R s m args below meth c Q D dA τ A σ0 n0 Cm Sm hX σ H locs cells slots lv hY hl hol hos
  exact lv_ixor hX.1 hX.2.2.1 hd  (k.use hX hY hl hol (ab_okS_cons (trivial) (ab_okS_tl (ab_okS_tl hos))))
theorem sw_ishl {x y : Int32} (hd : decode M.2.1 pc = .ok (.ishl, 1)) (k : SW sc M d rc rs (pc + 1) ls (.int (x <<< (y &&& 31)) :: st) h P) : SW sc M d rc rs pc ls (.int y :: .int x :: st) h P := by
  intro p l e R s m args below meth c Q D dA τ A σ0 n0 Cm Sm hX σ H locs cells slots lv hY hl hol hos
  exact lv_ishl hX.1 hX.2.2.1 hd  (k.use hX hY hl hol (ab_okS_cons (trivial) (ab_okS_tl (ab_okS_tl hos))))
theorem sw_ishr {x y : Int32} (hd : decode M.2.1 pc = .ok (.ishr, 1)) (k : SW sc M d rc rs (pc + 1) ls (.int (x >>> (y &&& 31)) :: st) h P) : SW sc M d rc rs pc ls (.int y :: .int x :: st) h P := by
  intro p l e R s m args below meth c Q D dA τ A σ0 n0 Cm Sm hX σ H locs cells slots lv hY hl hol hos
  exact lv_ishr hX.1 hX.2.2.1 hd  (k.use hX hY hl hol (ab_okS_cons (trivial) (ab_okS_tl (ab_okS_tl hos))))
theorem sw_iushr {x y : Int32} (hd : decode M.2.1 pc = .ok (.iushr, 1)) (k : SW sc M d rc rs (pc + 1) ls (.int ((x.toUInt32 >>> (y.toUInt32 &&& Int32.toUInt32 31)).toInt32) :: st) h P) : SW sc M d rc rs pc ls (.int y :: .int x :: st) h P := by
  intro p l e R s m args below meth c Q D dA τ A σ0 n0 Cm Sm hX σ H locs cells slots lv hY hl hol hos
  exact lv_iushr hX.1 hX.2.2.1 hd rfl (k.use hX hY hl hol (ab_okS_cons (trivial) (ab_okS_tl (ab_okS_tl hos))))
theorem sw_idiv {x y : Int32} (hd : decode M.2.1 pc = .ok (.idiv, 1)) (hne : ¬ y = 0) (k : SW sc M d rc rs (pc + 1) ls (.int (x / y) :: st) h P) : SW sc M d rc rs pc ls (.int y :: .int x :: st) h P := by
  intro p l e R s m args below meth c Q D dA τ A σ0 n0 Cm Sm hX σ H locs cells slots lv hY hl hol hos
  exact lv_idiv hX.1 hX.2.2.1 hd hne (k.use hX hY hl hol (ab_okS_cons (trivial) (ab_okS_tl (ab_okS_tl hos))))
theorem sw_irem {x y : Int32} (hd : decode M.2.1 pc = .ok (.irem, 1)) (hne : ¬ y = 0) (k : SW sc M d rc rs (pc + 1) ls (.int (x - x / y * y) :: st) h P) : SW sc M d rc rs pc ls (.int y :: .int x :: st) h P := by
  intro p l e R s m args below meth c Q D dA τ A σ0 n0 Cm Sm hX σ H locs cells slots lv hY hl hol hos
  exact lv_irem hX.1 hX.2.2.1 hd hne (k.use hX hY hl hol (ab_okS_cons (trivial) (ab_okS_tl (ab_okS_tl hos))))
theorem sw_ineg {x : Int32} (hd : decode M.2.1 pc = .ok (.ineg, 1)) (k : SW sc M d rc rs (pc + 1) ls (.int (-x) :: st) h P) : SW sc M d rc rs pc ls (.int x :: st) h P := by
  intro p l e R s m args below meth c Q D dA τ A σ0 n0 Cm Sm hX σ H locs cells slots lv hY hl hol hos
  exact lv_ineg hX.1 hX.2.2.1 hd  (k.use hX hY hl hol (ab_okS_cons (trivial) (ab_okS_tl hos)))
theorem sw_ladd {x y : Int64} (hd : decode M.2.1 pc = .ok (.ladd, 1)) (k : SW sc M d rc rs (pc + 1) ls (.long (x + y) :: st) h P) : SW sc M d rc rs pc ls (.long y :: .long x :: st) h P := by
  intro p l e R s m args below meth c Q D dA τ A σ0 n0 Cm Sm hX σ H locs cells slots lv hY hl hol hos
  exact lv_ladd hX.1 hX.2.2.1 hd  (k.use hX hY hl hol (ab_okS_cons (trivial) (ab_okS_tl (ab_okS_tl hos))))
theorem sw_lmul {x y : Int64} (hd : decode M.2.1 pc = .ok (.lmul, 1)) (k : SW sc M d rc rs (pc + 1) ls (.long (x * y) :: st) h P) : SW sc M d rc rs pc ls (.long y :: .long x :: st) h P := by
  intro p l e R s m args below meth c Q D dA τ A σ0 n0 Cm Sm hX σ H locs cells slots lv hY hl hol hos
  exact lv_lmul hX.1 hX.2.2.1 hd  (k.use hX hY hl hol (ab_okS_cons (trivial) (ab_okS_tl (ab_okS_tl hos))))
theorem sw_ldiv {x y : Int64} (hd : decode M.2.1 pc = .ok (.ldiv, 1)) (hne : ¬ y = 0) (k : SW sc M d rc rs (pc + 1) ls (.long (x / y) :: st) h P) : SW sc M d rc rs pc ls (.long y :: .long x :: st) h P := by
  intro p l e R s m args below meth c Q D dA τ A σ0 n0 Cm Sm hX σ H locs cells slots lv hY hl hol hos
  exact lv_ldiv hX.1 hX.2.2.1 hd hne (k.use hX hY hl hol (ab_okS_cons (trivial) (ab_okS_tl (ab_okS_tl hos))))
theorem sw_lcmp {x y : Int64} (hd : decode M.2.1 pc = .ok (.lcmp, 1)) (k : SW sc M d rc rs (pc + 1) ls (.int (lg_cmp x y) :: st) h P) : SW sc M d rc rs pc ls (.long y :: .long x :: st) h P := by
  intro p l e R s m args below meth c Q D dA τ A σ0 n0 Cm Sm hX σ H locs cells slots lv hY hl hol hos
  exact W.lcmp hX.1 hX.2.2.1 hd  (k.use hX hY hl hol (ab_okS_cons (trivial) (ab_okS_tl (ab_okS_tl hos))))
theorem sw_i2l {x : Int32} (hd : decode M.2.1 pc = .ok (.i2l, 1)) (k : SW sc M d rc rs (pc + 1) ls (.long x.toInt64 :: st) h P) : SW sc M d rc rs pc ls (.int x :: st) h P := by
  intro p l e R s m args below meth c Q D dA τ A σ0 n0 Cm Sm hX σ H locs cells slots lv hY hl hol hos
  exact lv_i2l hX.1 hX.2.2.1 hd rfl (k.use hX hY hl hol (ab_okS_cons (trivial) (ab_okS_tl hos)))
theorem sw_l2i {x : Int64} (hd : decode M.2.1 pc = .ok (.l2i, 1)) (k : SW sc M d rc rs (pc + 1) ls (.int x.toInt32 :: st) h P) : SW sc M d rc rs pc ls (.long x :: st) h P := by
  intro p l e R s m args below meth c Q D dA τ A σ0 n0 Cm Sm hX σ H locs cells slots lv hY hl hol hos
  exact lv_l2i hX.1 hX.2.2.1 hd rfl (k.use hX hY hl hol (ab_okS_cons (trivial) (ab_okS_tl hos)))
theorem sw_i2b {x : Int32} (hd : decode M.2.1 pc = .ok (.i2b, 1)) (k : SW sc M d rc rs (pc + 1) ls (.int x.toInt8.toInt32 :: st) h P) : SW sc M d rc rs pc ls (.int x :: st) h P := by
  intro p l e R s m args below meth c Q D dA τ A σ0 n0 Cm Sm hX σ H locs cells slots lv hY hl hol hos
  exact lv_i2b hX.1 hX.2.2.1 hd rfl (k.use hX hY hl hol (ab_okS_cons (trivial) (ab_okS_tl hos)))
theorem sw_i2c {x : Int32} (hd : decode M.2.1 pc = .ok (.i2c, 1)) (k : SW sc M d rc rs (pc + 1) ls (.int (x.toUInt32 % 65536).toInt32 :: st) h P) : SW sc M d rc rs pc ls (.int x :: st) h P := by
  intro p l e R s m args below meth c Q D dA τ A σ0 n0 Cm Sm hX σ H locs cells slots lv hY hl hol hos
  exact lv_i2c hX.1 hX.2.2.1 hd rfl (k.use hX hY hl hol (ab_okS_cons (trivial) (ab_okS_tl hos)))
theorem sw_i2f {x : Int32} (hd : decode M.2.1 pc = .ok (.i2f, 1)) (k : SW sc M d rc rs (pc + 1) ls (.float (FP.i2f x) :: st) h P) : SW sc M d rc rs pc ls (.int x :: st) h P := by
  intro p l e R s m args below meth c Q D dA τ A σ0 n0 Cm Sm hX σ H locs cells slots lv hY hl hol hos
  exact lv_i2f hX.1 hX.2.2.1 hd  (k.use hX hY hl hol (ab_okS_cons (trivial) (ab_okS_tl hos)))
theorem sw_i2d {x : Int32} (hd : decode M.2.1 pc = .ok (.i2d, 1)) (k : SW sc M d rc rs (pc + 1) ls (.double (FP.i2d x) :: st) h P) : SW sc M d rc rs pc ls (.int x :: st) h P := by
  intro p l e R s m args below meth c Q D dA τ A σ0 n0 Cm Sm hX σ H locs cells slots lv hY hl hol hos
  exact lv_i2d hX.1 hX.2.2.1 hd  (k.use hX hY hl hol (ab_okS_cons (trivial) (ab_okS_tl hos)))
theorem sw_f2d {x : UInt32} (hd : decode M.2.1 pc = .ok (.f2d, 1)) (hne : vf_n64 (FP.f2d x)) (k : SW sc M d rc rs (pc + 1) ls (.double (FP.f2d x) :: st) h P) : SW sc M d rc rs pc ls (.float x :: st) h P := by
  intro p l e R s m args below meth c Q D dA τ A σ0 n0 Cm Sm hX σ H locs cells slots lv hY hl hol hos
  exact lv_f2d hX.1 hX.2.2.1 hd hne (k.use hX hY hl hol (ab_okS_cons (trivial) (ab_okS_tl hos)))
theorem sw_fdiv {x y : UInt32} (hd : decode M.2.1 pc = .ok (.fdiv, 1)) (hne : vf_n32 (FP.fdiv x y)) (k : SW sc M d rc rs (pc + 1) ls (.float (FP.fdiv x y) :: st) h P) : SW sc M d rc rs pc ls (.float y :: .float x :: st) h P := by
  intro p l e R s m args below meth c Q D dA τ A σ0 n0 Cm Sm hX σ H locs cells slots lv hY hl hol hos
  exact lv_fdiv hX.1 hX.2.2.1 hd hne (k.use hX hY hl hol (ab_okS_cons (trivial) (ab_okS_tl (ab_okS_tl hos))))
theorem sw_ddiv {x y : UInt64} (hd : decode M.2.1 pc = .ok (.ddiv, 1)) (hne : vf_n64 (FP.ddiv x y)) (k : SW sc M d rc rs (pc + 1) ls (.double (FP.ddiv x y) :: st) h P) : SW sc M d rc rs pc ls (.double y :: .double x :: st) h P := by
  intro p l e R s m args below meth c Q D dA τ A σ0 n0 Cm Sm hX σ H locs cells slots lv hY hl hol hos
  exact lv_ddiv hX.1 hX.2.2.1 hd hne (k.use hX hY hl hol (ab_okS_cons (trivial) (ab_okS_tl (ab_okS_tl hos))))
theorem sw_fcmp {x y : UInt32} {op : CmpOp} (hd : decode M.2.1 pc = .ok (.fcmp op, 1)) (k : SW sc M d rc rs (pc + 1) ls (.int (Op.cmpValue (FP.fcmp x y) op) :: st) h P) : SW sc M d rc rs pc ls (.float y :: .float x :: st) h P := by
  intro p l e R s m args below meth c Q D dA τ A σ0 n0 Cm Sm hX σ H locs cells slots lv hY hl hol hos
  exact lv_fcmp hX.1 hX.2.2.1 hd  (k.use hX hY hl hol (ab_okS_cons (trivial) (ab_okS_tl (ab_okS_tl hos))))
theorem sw_dcmp {x y : UInt64} {op : CmpOp} (hd : decode M.2.1 pc = .ok (.dcmp op, 1)) (k : SW sc M d rc rs (pc + 1) ls (.int (Op.cmpValue (FP.dcmp x y) op) :: st) h P) : SW sc M d rc rs pc ls (.double y :: .double x :: st) h P := by
  intro p l e R s m args below meth c Q D dA τ A σ0 n0 Cm Sm hX σ H locs cells slots lv hY hl hol hos
  exact lv_dcmp hX.1 hX.2.2.1 hd  (k.use hX hY hl hol (ab_okS_cons (trivial) (ab_okS_tl (ab_okS_tl hos))))
theorem sw_iconst {n : Int} {v : Int32} (hd : decode M.2.1 pc = .ok (.iconst n, 1)) (hv : Int32.ofInt n = v) (k : SW sc M d rc rs (pc + 1) ls (.int v :: st) h P) : SW sc M d rc rs pc ls (st) h P := by
  intro p l e R s m args below meth c Q D dA τ A σ0 n0 Cm Sm hX σ H locs cells slots lv hY hl hol hos
  exact lv_iconst hX.1 hX.2.2.1 hd hv (k.use hX hY hl hol (ab_okS_cons (trivial) hos))
theorem sw_bipush {n : Int} {v : Int32} (hd : decode M.2.1 pc = .ok (.bipush n, 2)) (hv : (Int8.ofInt n).toInt32 = v) (k : SW sc M d rc rs (pc + 2) ls (.int v :: st) h P) : SW sc M d rc rs pc ls (st) h P := by
  intro p l e R s m args below meth c Q D dA τ A σ0 n0 Cm Sm hX σ H locs cells slots lv hY hl hol hos
  exact lv_bipush hX.1 hX.2.2.1 hd hv (k.use hX hY hl hol (ab_okS_cons (trivial) hos))
theorem sw_sipush {n : Int} {v : Int32} (hd : decode M.2.1 pc = .ok (.sipush n, 3)) (hv : (Int16.ofInt n).toInt32 = v) (k : SW sc M d rc rs (pc + 3) ls (.int v :: st) h P) : SW sc M d rc rs pc ls (st) h P := by
  intro p l e R s m args below meth c Q D dA τ A σ0 n0 Cm Sm hX σ H locs cells slots lv hY hl hol hos
  exact lv_sipush hX.1 hX.2.2.1 hd hv (k.use hX hY hl hol (ab_okS_cons (trivial) hos))
theorem sw_lconst {n : Fin 2} {v : Int64} (hd : decode M.2.1 pc = .ok (.lconst n, 1)) (hv : Int64.ofNat (n : Nat) = v) (k : SW sc M d rc rs (pc + 1) ls (.long v :: st) h P) : SW sc M d rc rs pc ls (st) h P := by
  intro p l e R s m args below meth c Q D dA τ A σ0 n0 Cm Sm hX σ H locs cells slots lv hY hl hol hos
  exact lv_lconst hX.1 hX.2.2.1 hd hv (k.use hX hY hl hol (ab_okS_cons (trivial) hos))
theorem sw_iload {i : Nat} {x : Int32} (hd : decode M.2.1 pc = .ok (.iload i, 2)) (hv : ls[i]? = some (some (.int x))) (k : SW sc M d rc rs (pc + 2) ls (.int x :: st) h P) : SW sc M d rc rs pc ls st h P := by
  intro p l e R s m args below meth c Q D dA τ A σ0 n0 Cm Sm hX σ H locs cells slots lv hY hl hol hos
  exact lv_iload hX.1 hX.2.2.1 hd (ab_l_at hl hv) (k.use hX hY hl hol (ab_okS_cons trivial hos))
theorem sw_iload_n {i : Fin 4} {x : Int32} (hd : decode M.2.1 pc = .ok (.iload_n i, 1)) (hv : ls[(i : Nat)]? = some (some (.int x))) (k : SW sc M d rc rs (pc + 1) ls (.int x :: st) h P) : SW sc M d rc rs pc ls st h P := by
  intro p l e R s m args below meth c Q D dA τ A σ0 n0 Cm Sm hX σ H locs cells slots lv hY hl hol hos
  exact lv_iload_n hX.1 hX.2.2.1 hd rfl (ab_l_at hl hv) (k.use hX hY hl hol (ab_okS_cons trivial hos))
theorem sw_lload {i : Nat} {x : Int64} (hd : decode M.2.1 pc = .ok (.lload i, 2)) (hv : ls[i]? = some (some (.long x))) (k : SW sc M d rc rs (pc + 2) ls (.long x :: st) h P) : SW sc M d rc rs pc ls st h P := by
  intro p l e R s m args below meth c Q D dA τ A σ0 n0 Cm Sm hX σ H locs cells slots lv hY hl hol hos
  exact lv_lload hX.1 hX.2.2.1 hd (ab_l_at hl hv) (k.use hX hY hl hol (ab_okS_cons trivial hos))
theorem sw_lload_n {i : Fin 4} {x : Int64} (hd : decode M.2.1 pc = .ok (.lload_n i, 1)) (hv : ls[(i : Nat)]? = some (some (.long x))) (k : SW sc M d rc rs (pc + 1) ls (.long x :: st) h P) : SW sc M d rc rs pc ls st h P := by
  intro p l e R s m args below meth c Q D dA τ A σ0 n0 Cm Sm hX σ H locs cells slots lv hY hl hol hos
  exact lv_lload_n hX.1 hX.2.2.1 hd rfl (ab_l_at hl hv) (k.use hX hY hl hol (ab_okS_cons trivial hos))
theorem sw_fload {i : Nat} {x : UInt32} (hd : decode M.2.1 pc = .ok (.fload i, 2)) (hv : ls[i]? = some (some (.float x))) (k : SW sc M d rc rs (pc + 2) ls (.float x :: st) h P) : SW sc M d rc rs pc ls st h P := by
  intro p l e R s m args below meth c Q D dA τ A σ0 n0 Cm Sm hX σ H locs cells slots lv hY hl hol hos
  exact lv_fload hX.1 hX.2.2.1 hd (ab_l_at hl hv) (k.use hX hY hl hol (ab_okS_cons trivial hos))
theorem sw_dload {i : Nat} {x : UInt64} (hd : decode M.2.1 pc = .ok (.dload i, 2)) (hv : ls[i]? = some (some (.double x))) (k : SW sc M d rc rs (pc + 2) ls (.double x :: st) h P) : SW sc M d rc rs pc ls st h P := by
  intro p l e R s m args below meth c Q D dA τ A σ0 n0 Cm Sm hX σ H locs cells slots lv hY hl hol hos
  exact lv_dload hX.1 hX.2.2.1 hd (ab_l_at hl hv) (k.use hX hY hl hol (ab_okS_cons trivial hos))
theorem sw_aload {i j : Nat} (hd : decode M.2.1 pc = .ok (.aload i, 2)) (hv : ls[i]? = some (some (.ref j))) (k : SW sc M d rc rs (pc + 2) ls (.ref j :: st) h P) : SW sc M d rc rs pc ls st h P := by
  intro p l e R s m args below meth c Q D dA τ A σ0 n0 Cm Sm hX σ H locs cells slots lv hY hl hol hos
  exact lv_aload hX.1 hX.2.2.1 hd (ab_l_at hl hv) (k.use hX hY hl hol (ab_okS_cons (ab_okL_at hol hv) hos))
theorem sw_aload_n {i : Fin 4} {j : Nat} (hd : decode M.2.1 pc = .ok (.aload_n i, 1)) (hv : ls[(i : Nat)]? = some (some (.ref j))) (k : SW sc M d rc rs (pc + 1) ls (.ref j :: st) h P) : SW sc M d rc rs pc ls st h P := by
  intro p l e R s m args below meth c Q D dA τ A σ0 n0 Cm Sm hX σ H locs cells slots lv hY hl hol hos
  exact lv_aload_n hX.1 hX.2.2.1 hd rfl (ab_l_at hl hv) (k.use hX hY hl hol (ab_okS_cons (ab_okL_at hol hv) hos))
theorem ab_G.txt {D : va_G} {dA : Nat → ClassId} {τ : Nat → Value} {A : Nat → Prop} {U : State} {H : Heap} (hG : ab_G sc D dA τ A U H) {t : Nat} (ht : t < 6 ∨ (10 ≤ t ∧ t < 16) ∨ (t = 100 ∧ sc ≠ none)) : ∃ a, τ t = .ref a := by
  obtain ⟨-, -, -, ⟨adK, adV, -, h2⟩, -, -, -, -, -, -, h3⟩ := hG
  rcases ht with h | ⟨h, h'⟩ | ⟨rfl, h⟩
  · exact ⟨_, (h2 t h).1⟩
  · obtain ⟨i, rfl⟩ : ∃ i, t = 10 + i := ⟨t - 10, by omega⟩
    exact ⟨_, (h2 i (by omega)).2⟩
  · cases sc with
    | none => exact absurd rfl h
    | some xs =>
      obtain ⟨b, h4, -⟩ := h3
      exact ⟨b, h4⟩
theorem sw_aload_t {i t : Nat} (hd : decode M.2.1 pc = .ok (.aload i, 2)) (hv : ls[i]? = some (some (.retAddr t))) (ht : t < 6 ∨ (10 ≤ t ∧ t < 16) ∨ (t = 100 ∧ sc ≠ none)) (k : SW sc M d rc rs (pc + 2) ls (.retAddr t :: st) h P) : SW sc M d rc rs pc ls st h P := by
  intro p l e R s m args below meth c Q D dA τ A σ0 n0 Cm Sm hX σ H locs cells slots lv hY hl hol hos
  obtain ⟨a, ha⟩ := ab_G.txt hX.2.2.2.2.2.2.2.2.2.2.1 ht
  have e : ab_v σ τ (.retAddr t) = .ref a := ha
  have h1 := ab_l_at hl hv
  have h2 := k.use hX hY hl hol (ab_okS_cons trivial hos)
  rw [List.map_cons, e] at h2
  rw [e] at h1
  exact lv_aload hX.1 hX.2.2.1 hd h1 h2
theorem sw_aload_nt {i : Fin 4} {t : Nat} (hd : decode M.2.1 pc = .ok (.aload_n i, 1)) (hv : ls[(i : Nat)]? = some (some (.retAddr t))) (ht : t < 6 ∨ (10 ≤ t ∧ t < 16) ∨ (t = 100 ∧ sc ≠ none)) (k : SW sc M d rc rs (pc + 1) ls (.retAddr t :: st) h P) : SW sc M d rc rs pc ls st h P := by
  intro p l e R s m args below meth c Q D dA τ A σ0 n0 Cm Sm hX σ H locs cells slots lv hY hl hol hos
  obtain ⟨a, ha⟩ := ab_G.txt hX.2.2.2.2.2.2.2.2.2.2.1 ht
  have e : ab_v σ τ (.retAddr t) = .ref a := ha
  have h1 := ab_l_at hl hv
  have h2 := k.use hX hY hl hol (ab_okS_cons trivial hos)
  rw [List.map_cons, e] at h2
  rw [e] at h1
  exact lv_aload_n hX.1 hX.2.2.1 hd rfl h1 h2
theorem sw_istore {i : Nat} {x : Int32} (hd : decode M.2.1 pc = .ok (.istore i, 2)) (hn : i < M.2.2.1) (hs : ab_st ls i = true) (k : SW sc M d rc rs (pc + 2) (ls.set i (some (.int x))) st h P) : SW sc M d rc rs pc ls (.int x :: st) h P := by
  intro p l e R s m args below meth c Q D dA τ A σ0 n0 Cm Sm hX σ H locs cells slots lv hY hl hol hos
  exact lv_istore hX.1 hX.2.2.1 hd hl hn rfl (fun ls' hl' => k.use hX hY (ab_l_set1 rfl (ab_st_ok hs) hl') (ab_okL_set hol trivial) (ab_okS_tl hos))
theorem sw_fstore {i : Nat} {x : UInt32} (hd : decode M.2.1 pc = .ok (.fstore i, 2)) (hn : i < M.2.2.1) (hs : ab_st ls i = true) (k : SW sc M d rc rs (pc + 2) (ls.set i (some (.float x))) st h P) : SW sc M d rc rs pc ls (.float x :: st) h P := by
  intro p l e R s m args below meth c Q D dA τ A σ0 n0 Cm Sm hX σ H locs cells slots lv hY hl hol hos
  exact lv_fstore hX.1 hX.2.2.1 hd hl hn rfl (fun ls' hl' => k.use hX hY (ab_l_set1 rfl (ab_st_ok hs) hl') (ab_okL_set hol trivial) (ab_okS_tl hos))
theorem sw_istore_n {i : Fin 4} {x : Int32} (hd : decode M.2.1 pc = .ok (.istore_n i, 1)) (hn : (i : Nat) < M.2.2.1) (hs : ab_st ls i = true) (k : SW sc M d rc rs (pc + 1) (ls.set i (some (.int x))) st h P) : SW sc M d rc rs pc ls (.int x :: st) h P := by
  intro p l e R s m args below meth c Q D dA τ A σ0 n0 Cm Sm hX σ H locs cells slots lv hY hl hol hos
  exact lv_istore_n hX.1 hX.2.2.1 hd rfl hl hn rfl (fun ls' hl' => k.use hX hY (ab_l_set1 rfl (ab_st_ok hs) hl') (ab_okL_set hol trivial) (ab_okS_tl hos))
theorem sw_astore_n {i : Fin 4} {j : Nat} (hd : decode M.2.1 pc = .ok (.astore_n i, 1)) (hn : (i : Nat) < M.2.2.1) (hs : ab_st ls i = true) (k : SW sc M d rc rs (pc + 1) (ls.set i (some (.ref j))) st h P) : SW sc M d rc rs pc ls (.ref j :: st) h P := by
  intro p l e R s m args below meth c Q D dA τ A σ0 n0 Cm Sm hX σ H locs cells slots lv hY hl hol hos
  exact lv_astore_n hX.1 hX.2.2.1 hd rfl hl hn rfl (fun ls' hl' => k.use hX hY (ab_l_set1 rfl (ab_st_ok hs) hl') (ab_okL_set hol (ab_okS_hd hos)) (ab_okS_tl hos))
theorem sw_astore {i j : Nat} (hd : decode M.2.1 pc = .ok (.astore i, 2)) (hn : i < M.2.2.1) (hs : ab_st ls i = true) (k : SW sc M d rc rs (pc + 2) (ls.set i (some (.ref j))) st h P) : SW sc M d rc rs pc ls (.ref j :: st) h P := by
  intro p l e R s m args below meth c Q D dA τ A σ0 n0 Cm Sm hX σ H locs cells slots lv hY hl hol hos
  exact lv_astore hX.1 hX.2.2.1 hd hl hn rfl (fun ls' hl' => k.use hX hY (ab_l_set1 rfl (ab_st_ok hs) hl') (ab_okL_set hol (ab_okS_hd hos)) (ab_okS_tl hos))
theorem sw_lstore_n {i : Fin 4} {x : Int64} (hd : decode M.2.1 pc = .ok (.lstore_n i, 1)) (hn : (i : Nat) + 1 < M.2.2.1) (hs : ab_st ls i = true) (k : SW sc M d rc rs (pc + 1) ((ls.set i (some (.long x))).set (i + 1) none) st h P) : SW sc M d rc rs pc ls (.long x :: st) h P := by
  intro p l e R s m args below meth c Q D dA τ A σ0 n0 Cm Sm hX σ H locs cells slots lv hY hl hol hos
  exact lv_lstore_n hX.1 hX.2.2.1 hd rfl hl hn rfl (fun ls' hl' => k.use hX hY (ab_l_set2 rfl (ab_st_ok hs) hl') (ab_okL_none (ab_okL_set hol trivial)) (ab_okS_tl hos))
theorem sw_dstore {i : Nat} {x : UInt64} (hd : decode M.2.1 pc = .ok (.dstore i, 2)) (hn : i + 1 < M.2.2.1) (hs : ab_st ls i = true) (k : SW sc M d rc rs (pc + 2) ((ls.set i (some (.double x))).set (i + 1) none) st h P) : SW sc M d rc rs pc ls (.double x :: st) h P := by
  intro p l e R s m args below meth c Q D dA τ A σ0 n0 Cm Sm hX σ H locs cells slots lv hY hl hol hos
  exact lv_dstore hX.1 hX.2.2.1 hd hl hn rfl (fun ls' hl' => k.use hX hY (ab_l_set2 rfl (ab_st_ok hs) hl') (ab_okL_none (ab_okL_set hol trivial)) (ab_okS_tl hos))
theorem sw_iinc {i : Nat} {n : Int} {x v : Int32} (hd : decode M.2.1 pc = .ok (.iinc i n, 3)) (hv : ls[i]? = some (some (.int x))) (he : x + Int32.ofInt n = v) (hn : i < M.2.2.1) (hs : ab_st ls i = true) (k : SW sc M d rc rs (pc + 3) (ls.set i (some (.int v))) st h P) : SW sc M d rc rs pc ls st h P := by
  intro p l e R s m args below meth c Q D dA τ A σ0 n0 Cm Sm hX σ H locs cells slots lv hY hl hol hos
  have hl2 : lv_has lv M.2.2.1 ((i, .int x) :: ab_l σ τ ls) := ⟨hl.1, hl.2.1, fun q hq => by
    rcases List.mem_cons.mp hq with rfl | hq
    · exact ab_l_at hl hv
    · exact hl.2.2 q hq⟩
  refine lv_iinc (k := 0) hX.1 hX.2.2.1 hd hl2 rfl he hn rfl (fun ls' hl' => k.use hX hY (ab_l_set1 rfl (ab_st_ok hs) ⟨hl'.1, hl'.2.1, fun q hq => hl'.2.2 q ?_⟩) (ab_okL_set hol trivial) hos)
  rcases List.mem_cons.mp hq with rfl | hq
  · exact List.mem_cons_self
  · obtain ⟨h1, h2⟩ := List.mem_filter.mp hq
    exact List.mem_cons_of_mem _ (List.mem_filter.mpr ⟨List.mem_cons_of_mem _ h1, h2⟩)
theorem sw_dup {w : Value} (hd : decode M.2.1 pc = .ok (.dup, 1)) (hc : ∀ σ τ, (ab_v σ τ w).category = 1) (k : SW sc M d rc rs (pc + 1) ls (w :: w :: st) h P) : SW sc M d rc rs pc ls (w :: st) h P := by
  intro p l e R s m args below meth c Q D dA τ A σ0 n0 Cm Sm hX σ H locs cells slots lv hY hl hol hos
  exact lv_dup hX.1 hX.2.2.1 hd (hc σ τ) (k.use hX hY hl hol (ab_okS_cons (ab_okS_hd hos) hos))
theorem sw_pop {w : Value} (hd : decode M.2.1 pc = .ok (.pop, 1)) (hc : ∀ σ τ, (ab_v σ τ w).category = 1) (k : SW sc M d rc rs (pc + 1) ls st h P) : SW sc M d rc rs pc ls (w :: st) h P := by
  intro p l e R s m args below meth c Q D dA τ A σ0 n0 Cm Sm hX σ H locs cells slots lv hY hl hol hos
  exact lv_pop hX.1 hX.2.2.1 hd (hc σ τ) (k.use hX hY hl hol (ab_okS_tl hos))
theorem sw_dup2 {v w : Value} (hd : decode M.2.1 pc = .ok (.dup2, 1)) (hc : ∀ σ τ, (ab_v σ τ v).category = 1) (hc2 : ∀ σ τ, (ab_v σ τ w).category = 1) (k : SW sc M d rc rs (pc + 1) ls (v :: w :: v :: w :: st) h P) : SW sc M d rc rs pc ls (v :: w :: st) h P := by
  intro p l e R s m args below meth c Q D dA τ A σ0 n0 Cm Sm hX σ H locs cells slots lv hY hl hol hos
  exact lv_dup2_11 hX.1 hX.2.2.1 hd (hc σ τ) (hc2 σ τ) (k.use hX hY hl hol (ab_okS_cons (ab_okS_hd hos) (ab_okS_cons (ab_okS_hd (ab_okS_tl hos)) hos)))
theorem sw_if_eq {x : Int32} {off : Int} {tgt : Nat} (hd : decode M.2.1 pc = .ok (.ifCond .eq off, 3)) (ht : (pc : Int) + off = (tgt : Int)) (kt : x = 0 → SW sc M d rc rs tgt ls st h P) (kf : ¬ x = 0 → SW sc M d rc rs (pc + 3) ls st h P) : SW sc M d rc rs pc ls (.int x :: st) h P := by
  intro p l e R s m args below meth c Q D dA τ A σ0 n0 Cm Sm hX σ H locs cells slots lv hY hl hol hos
  exact lv_if_eq hX.1 hX.2.2.1 hd ht (fun q => (kt q).use hX hY hl hol (ab_okS_tl hos)) (fun q => (kf q).use hX hY hl hol (ab_okS_tl hos))
theorem sw_if_ne {x : Int32} {off : Int} {tgt : Nat} (hd : decode M.2.1 pc = .ok (.ifCond .ne off, 3)) (ht : (pc : Int) + off = (tgt : Int)) (kt : ¬ x = 0 → SW sc M d rc rs tgt ls st h P) (kf : x = 0 → SW sc M d rc rs (pc + 3) ls st h P) : SW sc M d rc rs pc ls (.int x :: st) h P := by
  intro p l e R s m args below meth c Q D dA τ A σ0 n0 Cm Sm hX σ H locs cells slots lv hY hl hol hos
  exact lv_if_ne hX.1 hX.2.2.1 hd ht (fun q => (kt q).use hX hY hl hol (ab_okS_tl hos)) (fun q => (kf q).use hX hY hl hol (ab_okS_tl hos))
theorem sw_if_lt {x : Int32} {off : Int} {tgt : Nat} (hd : decode M.2.1 pc = .ok (.ifCond .lt off, 3)) (ht : (pc : Int) + off = (tgt : Int)) (kt : x < 0 → SW sc M d rc rs tgt ls st h P) (kf : ¬ x < 0 → SW sc M d rc rs (pc + 3) ls st h P) : SW sc M d rc rs pc ls (.int x :: st) h P := by
  intro p l e R s m args below meth c Q D dA τ A σ0 n0 Cm Sm hX σ H locs cells slots lv hY hl hol hos
  exact lv_if_lt hX.1 hX.2.2.1 hd ht (fun q => (kt q).use hX hY hl hol (ab_okS_tl hos)) (fun q => (kf q).use hX hY hl hol (ab_okS_tl hos))
theorem sw_if_ge {x : Int32} {off : Int} {tgt : Nat} (hd : decode M.2.1 pc = .ok (.ifCond .ge off, 3)) (ht : (pc : Int) + off = (tgt : Int)) (kt : 0 ≤ x → SW sc M d rc rs tgt ls st h P) (kf : ¬ 0 ≤ x → SW sc M d rc rs (pc + 3) ls st h P) : SW sc M d rc rs pc ls (.int x :: st) h P := by
  intro p l e R s m args below meth c Q D dA τ A σ0 n0 Cm Sm hX σ H locs cells slots lv hY hl hol hos
  exact lv_if_ge hX.1 hX.2.2.1 hd ht (fun q => (kt q).use hX hY hl hol (ab_okS_tl hos)) (fun q => (kf q).use hX hY hl hol (ab_okS_tl hos))
theorem sw_if_gt {x : Int32} {off : Int} {tgt : Nat} (hd : decode M.2.1 pc = .ok (.ifCond .gt off, 3)) (ht : (pc : Int) + off = (tgt : Int)) (kt : 0 < x → SW sc M d rc rs tgt ls st h P) (kf : ¬ 0 < x → SW sc M d rc rs (pc + 3) ls st h P) : SW sc M d rc rs pc ls (.int x :: st) h P := by
  intro p l e R s m args below meth c Q D dA τ A σ0 n0 Cm Sm hX σ H locs cells slots lv hY hl hol hos
  exact lv_if_gt hX.1 hX.2.2.1 hd ht (fun q => (kt q).use hX hY hl hol (ab_okS_tl hos)) (fun q => (kf q).use hX hY hl hol (ab_okS_tl hos))
theorem sw_if_le {x : Int32} {off : Int} {tgt : Nat} (hd : decode M.2.1 pc = .ok (.ifCond .le off, 3)) (ht : (pc : Int) + off = (tgt : Int)) (kt : x ≤ 0 → SW sc M d rc rs tgt ls st h P) (kf : ¬ x ≤ 0 → SW sc M d rc rs (pc + 3) ls st h P) : SW sc M d rc rs pc ls (.int x :: st) h P := by
  intro p l e R s m args below meth c Q D dA τ A σ0 n0 Cm Sm hX σ H locs cells slots lv hY hl hol hos
  exact lv_if_le hX.1 hX.2.2.1 hd ht (fun q => (kt q).use hX hY hl hol (ab_okS_tl hos)) (fun q => (kf q).use hX hY hl hol (ab_okS_tl hos))
theorem sw_icmp_eq {x y : Int32} {off : Int} {tgt : Nat} (hd : decode M.2.1 pc = .ok (.if_icmp .eq off, 3)) (ht : (pc : Int) + off = (tgt : Int)) (kt : x = y → SW sc M d rc rs tgt ls st h P) (kf : ¬ x = y → SW sc M d rc rs (pc + 3) ls st h P) : SW sc M d rc rs pc ls (.int y :: .int x :: st) h P := by
  intro p l e R s m args below meth c Q D dA τ A σ0 n0 Cm Sm hX σ H locs cells slots lv hY hl hol hos
  exact lv_icmp_eq hX.1 hX.2.2.1 hd ht (fun q => (kt q).use hX hY hl hol (ab_okS_tl (ab_okS_tl hos))) (fun q => (kf q).use hX hY hl hol (ab_okS_tl (ab_okS_tl hos)))
theorem sw_icmp_ne {x y : Int32} {off : Int} {tgt : Nat} (hd : decode M.2.1 pc = .ok (.if_icmp .ne off, 3)) (ht : (pc : Int) + off = (tgt : Int)) (kt : ¬ x = y → SW sc M d rc rs tgt ls st h P) (kf : x = y → SW sc M d rc rs (pc + 3) ls st h P) : SW sc M d rc rs pc ls (.int y :: .int x :: st) h P := by
  intro p l e R s m args below meth c Q D dA τ A σ0 n0 Cm Sm hX σ H locs cells slots lv hY hl hol hos
  exact lv_icmp_ne hX.1 hX.2.2.1 hd ht (fun q => (kt q).use hX hY hl hol (ab_okS_tl (ab_okS_tl hos))) (fun q => (kf q).use hX hY hl hol (ab_okS_tl (ab_okS_tl hos)))
theorem sw_icmp_lt {x y : Int32} {off : Int} {tgt : Nat} (hd : decode M.2.1 pc = .ok (.if_icmp .lt off, 3)) (ht : (pc : Int) + off = (tgt : Int)) (kt : x < y → SW sc M d rc rs tgt ls st h P) (kf : ¬ x < y → SW sc M d rc rs (pc + 3) ls st h P) : SW sc M d rc rs pc ls (.int y :: .int x :: st) h P := by
  intro p l e R s m args below meth c Q D dA τ A σ0 n0 Cm Sm hX σ H locs cells slots lv hY hl hol hos
  exact lv_icmp_lt hX.1 hX.2.2.1 hd ht (fun q => (kt q).use hX hY hl hol (ab_okS_tl (ab_okS_tl hos))) (fun q => (kf q).use hX hY hl hol (ab_okS_tl (ab_okS_tl hos)))
theorem sw_icmp_ge {x y : Int32} {off : Int} {tgt : Nat} (hd : decode M.2.1 pc = .ok (.if_icmp .ge off, 3)) (ht : (pc : Int) + off = (tgt : Int)) (kt : y ≤ x → SW sc M d rc rs tgt ls st h P) (kf : ¬ y ≤ x → SW sc M d rc rs (pc + 3) ls st h P) : SW sc M d rc rs pc ls (.int y :: .int x :: st) h P := by
  intro p l e R s m args below meth c Q D dA τ A σ0 n0 Cm Sm hX σ H locs cells slots lv hY hl hol hos
  exact lv_icmp_ge hX.1 hX.2.2.1 hd ht (fun q => (kt q).use hX hY hl hol (ab_okS_tl (ab_okS_tl hos))) (fun q => (kf q).use hX hY hl hol (ab_okS_tl (ab_okS_tl hos)))
theorem sw_icmp_gt {x y : Int32} {off : Int} {tgt : Nat} (hd : decode M.2.1 pc = .ok (.if_icmp .gt off, 3)) (ht : (pc : Int) + off = (tgt : Int)) (kt : y < x → SW sc M d rc rs tgt ls st h P) (kf : ¬ y < x → SW sc M d rc rs (pc + 3) ls st h P) : SW sc M d rc rs pc ls (.int y :: .int x :: st) h P := by
  intro p l e R s m args below meth c Q D dA τ A σ0 n0 Cm Sm hX σ H locs cells slots lv hY hl hol hos
  exact lv_icmp_gt hX.1 hX.2.2.1 hd ht (fun q => (kt q).use hX hY hl hol (ab_okS_tl (ab_okS_tl hos))) (fun q => (kf q).use hX hY hl hol (ab_okS_tl (ab_okS_tl hos)))
theorem sw_icmp_le {x y : Int32} {off : Int} {tgt : Nat} (hd : decode M.2.1 pc = .ok (.if_icmp .le off, 3)) (ht : (pc : Int) + off = (tgt : Int)) (kt : x ≤ y → SW sc M d rc rs tgt ls st h P) (kf : ¬ x ≤ y → SW sc M d rc rs (pc + 3) ls st h P) : SW sc M d rc rs pc ls (.int y :: .int x :: st) h P := by
  intro p l e R s m args below meth c Q D dA τ A σ0 n0 Cm Sm hX σ H locs cells slots lv hY hl hol hos
  exact lv_icmp_le hX.1 hX.2.2.1 hd ht (fun q => (kt q).use hX hY hl hol (ab_okS_tl (ab_okS_tl hos))) (fun q => (kf q).use hX hY hl hol (ab_okS_tl (ab_okS_tl hos)))
theorem sw_goto {off : Int} {tgt : Nat} (hd : decode M.2.1 pc = .ok (.goto off, 3)) (ht : (pc : Int) + off = (tgt : Int)) (k : SW sc M d rc rs tgt ls st h P) : SW sc M d rc rs pc ls st h P := by
  intro p l e R s m args below meth c Q D dA τ A σ0 n0 Cm Sm hX σ H locs cells slots lv hY hl hol hos
  exact lv_goto hX.1 hX.2.2.1 hd ht (k.use hX hY hl hol hos)
theorem sw_tableIn {dflt lo hi : Int} {offs : Array Int} {len : Nat} {x : Int32} {off : Int} {tgt : Nat} (hd : decode M.2.1 pc = .ok (.tableswitch dflt lo hi offs, len)) (h1 : ¬ x.toInt < lo) (h2 : ¬ hi < x.toInt) (ho : offs[(x.toInt - lo).toNat]? = some off) (ht : (pc : Int) + off = (tgt : Int)) (k : SW sc M d rc rs tgt ls st h P) : SW sc M d rc rs pc ls (.int x :: st) h P := by
  intro p l e R s m args below meth c Q D dA τ A σ0 n0 Cm Sm hX σ H locs cells slots lv hY hl hol hos
  exact lv_tableIn hX.1 hX.2.2.1 hd h1 h2 ho ht (k.use hX hY hl hol (ab_okS_tl hos))
theorem sw_tableOut {dflt lo hi : Int} {offs : Array Int} {len : Nat} {x : Int32} {tgt : Nat} (hd : decode M.2.1 pc = .ok (.tableswitch dflt lo hi offs, len)) (ho : x.toInt < lo ∨ hi < x.toInt) (ht : (pc : Int) + dflt = (tgt : Int)) (k : SW sc M d rc rs tgt ls st h P) : SW sc M d rc rs pc ls (.int x :: st) h P := by
  intro p l e R s m args below meth c Q D dA τ A σ0 n0 Cm Sm hX σ H locs cells slots lv hY hl hol hos
  exact lv_tableOut hX.1 hX.2.2.1 hd ho ht (k.use hX hY hl hol (ab_okS_tl hos))
/-- more may be made than is -/
theorem sw_widen {rc' rs' : Nat} (h1 : rc ≤ rc') (h2 : rs ≤ rs') (k : SW sc M d rc rs pc ls st h P) : SW sc M d rc' rs' pc ls st h P := by
  intro p l e R s m args below meth c Q D dA τ A σ0 n0 Cm Sm hX σ H locs cells slots lv hY hl hol hos
  obtain ⟨y1, y2, y3, y4, y5, y6, y7, y8⟩ := hY
  exact k.use hX ⟨y1, y2, y3, y4, y5, y6, by omega, by omega⟩ hl hol hos
theorem sw_post {P' : ab_O → ab_H → Prop} (hp : ∀ o h', P' o h' → P o h') (k : SW sc M d rc rs pc ls st h P') : SW sc M d rc rs pc ls st h P := by
  intro p l e R s m args below meth c Q D dA τ A σ0 n0 Cm Sm hX σ H locs cells slots lv hY hl hol hos
  obtain ⟨x1, x2, x3, x4, x5, x6, x7, x8, x9, x10, x11, x12, x13, x14, x15, x16, kr, kx⟩ := hX
  exact k.use ⟨x1, x2, x3, x4, x5, x6, x7, x8, x9, x10, x11, x12, x13, x14, x15, x16, fun v h' σ' H' locs' cells' slots' pc' lv' ins hP => kr v h' σ' H' locs' cells' slots' pc' lv' ins (hp _ _ hP), fun E h' σ' H' locs' cells' slots' pc' lv' rest q ce hP => kx E h' σ' H' locs' cells' slots' pc' lv' rest q ce (hp _ _ hP)⟩ hY hl hol hos
/-- the end -/
theorem sw_ret {ins : Instr} {v : Option Value} (hd : decode M.2.1 pc = .ok (ins, 1)) (hr : ab_ret M.2.2.2.1 ins v) (hP : P (.inl v) h) : SW sc M d rc rs pc ls v.toList h P := by
  intro p l e R s m args below meth c Q D dA τ A σ0 n0 Cm Sm hX σ H locs cells slots lv hY hl hol hos
  obtain ⟨x1, x2, x3, x4, x5, x6, x7, x8, x9, x10, x11, x12, x13, x14, x15, x16, kr, kx⟩ := hX
  obtain ⟨y1, y2, y3, y4, y5, y6, y7, y8⟩ := hY
  have := kr v h σ H locs cells slots pc lv ins hP ⟨y1, y2, y3, y4, y5, y6, by omega, by omega⟩ hos hd hr
  cases v <;> exact this
theorem st_out {E : Nat} (hh : M.2.2.2.2 = []) (hP : P (.inr E) h) : ST sc M d rc rs pc ls h E P := by
  intro p l e R s m args below meth c Q D dA τ A σ0 n0 Cm Sm hX σ H locs cells slots lv rest q ce hY hl hol h1 h2 h3
  obtain ⟨x1, x2, x3, x4, x5, x6, x7, x8, x9, x10, x11, x12, x13, x14, x15, x16, kr, kx⟩ := hX
  obtain ⟨y1, y2, y3, y4, y5, y6, y7, y8⟩ := hY
  exact kx E h σ H locs cells slots pc lv rest q ce hP ⟨y1, y2, y3, y4, y5, y6, by omega, by omega⟩ h1 h2 h3 hh
end AB1
