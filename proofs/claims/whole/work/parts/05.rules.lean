/-! rules, an instruction each -/
theorem x_iadd {S : kH} {j : kM} {pc : Nat} {lv : List (Option Value)} {st : List Value} {σ : kS} {r : Option Value} {τ : kS} {x y : Int32} (d : decode j.2.1 pc = .ok (.iadd, 1)) (k : Ex S j (pc + 1) lv (.int (x + y) :: st) σ r τ) : Ex S j pc lv (.int y :: .int x :: st) σ r τ := by
  intro p l e s m args below meth c D cA ad H locs ls E hP hD hS hl
  exact lv_iadd E.1 E.2.1 d (k p l e s m args below meth c D cA ad H locs ls E hP hD hS hl)
theorem x_isub {S : kH} {j : kM} {pc : Nat} {lv : List (Option Value)} {st : List Value} {σ : kS} {r : Option Value} {τ : kS} {x y : Int32} (d : decode j.2.1 pc = .ok (.isub, 1)) (k : Ex S j (pc + 1) lv (.int (x - y) :: st) σ r τ) : Ex S j pc lv (.int y :: .int x :: st) σ r τ := by
  intro p l e s m args below meth c D cA ad H locs ls E hP hD hS hl
  exact lv_isub E.1 E.2.1 d (k p l e s m args below meth c D cA ad H locs ls E hP hD hS hl)
theorem x_imul {S : kH} {j : kM} {pc : Nat} {lv : List (Option Value)} {st : List Value} {σ : kS} {r : Option Value} {τ : kS} {x y : Int32} (d : decode j.2.1 pc = .ok (.imul, 1)) (k : Ex S j (pc + 1) lv (.int (x * y) :: st) σ r τ) : Ex S j pc lv (.int y :: .int x :: st) σ r τ := by
  intro p l e s m args below meth c D cA ad H locs ls E hP hD hS hl
  exact lv_imul E.1 E.2.1 d (k p l e s m args below meth c D cA ad H locs ls E hP hD hS hl)
theorem x_iand {S : kH} {j : kM} {pc : Nat} {lv : List (Option Value)} {st : List Value} {σ : kS} {r : Option Value} {τ : kS} {x y : Int32} (d : decode j.2.1 pc = .ok (.iand, 1)) (k : Ex S j (pc + 1) lv (.int (x &&& y) :: st) σ r τ) : Ex S j pc lv (.int y :: .int x :: st) σ r τ := by
  intro p l e s m args below meth c D cA ad H locs ls E hP hD hS hl
  exact lv_iand E.1 E.2.1 d (k p l e s m args below meth c D cA ad H locs ls E hP hD hS hl)
theorem x_ior {S : kH} {j : kM} {pc : Nat} {lv : List (Option Value)} {st : List Value} {σ : kS} {r : Option Value} {τ : kS} {x y : Int32} (d : decode j.2.1 pc = .ok (.ior, 1)) (k : Ex S j (pc + 1) lv (.int (x ||| y) :: st) σ r τ) : Ex S j pc lv (.int y :: .int x :: st) σ r τ := by
  intro p l e s m args below meth c D cA ad H locs ls E hP hD hS hl
  exact lv_ior E.1 E.2.1 d (k p l e s m args below meth c D cA ad H locs ls E hP hD hS hl)
theorem x_ixor {S : kH} {j : kM} {pc : Nat} {lv : List (Option Value)} {st : List Value} {σ : kS} {r : Option Value} {τ : kS} {x y : Int32} (d : decode j.2.1 pc = .ok (.ixor, 1)) (k : Ex S j (pc + 1) lv (.int (x ^^^ y) :: st) σ r τ) : Ex S j pc lv (.int y :: .int x :: st) σ r τ := by
  intro p l e s m args below meth c D cA ad H locs ls E hP hD hS hl
  exact lv_ixor E.1 E.2.1 d (k p l e s m args below meth c D cA ad H locs ls E hP hD hS hl)
theorem x_ishl {S : kH} {j : kM} {pc : Nat} {lv : List (Option Value)} {st : List Value} {σ : kS} {r : Option Value} {τ : kS} {x y : Int32} (d : decode j.2.1 pc = .ok (.ishl, 1)) (k : Ex S j (pc + 1) lv (.int (x <<< (y &&& 31)) :: st) σ r τ) : Ex S j pc lv (.int y :: .int x :: st) σ r τ := by
  intro p l e s m args below meth c D cA ad H locs ls E hP hD hS hl
  exact lv_ishl E.1 E.2.1 d (k p l e s m args below meth c D cA ad H locs ls E hP hD hS hl)
theorem x_ishr {S : kH} {j : kM} {pc : Nat} {lv : List (Option Value)} {st : List Value} {σ : kS} {r : Option Value} {τ : kS} {x y : Int32} (d : decode j.2.1 pc = .ok (.ishr, 1)) (k : Ex S j (pc + 1) lv (.int (x >>> (y &&& 31)) :: st) σ r τ) : Ex S j pc lv (.int y :: .int x :: st) σ r τ := by
  intro p l e s m args below meth c D cA ad H locs ls E hP hD hS hl
  exact lv_ishr E.1 E.2.1 d (k p l e s m args below meth c D cA ad H locs ls E hP hD hS hl)
theorem x_iushr {S : kH} {j : kM} {pc : Nat} {lv : List (Option Value)} {st : List Value} {σ : kS} {r : Option Value} {τ : kS} {x y : Int32} (d : decode j.2.1 pc = .ok (.iushr, 1)) (k : Ex S j (pc + 1) lv (.int ((x.toUInt32 >>> (y.toUInt32 &&& Int32.toUInt32 31)).toInt32) :: st) σ r τ) : Ex S j pc lv (.int y :: .int x :: st) σ r τ := by
  intro p l e s m args below meth c D cA ad H locs ls E hP hD hS hl
  exact lv_iushr E.1 E.2.1 d rfl (k p l e s m args below meth c D cA ad H locs ls E hP hD hS hl)
theorem x_idiv {S : kH} {j : kM} {pc : Nat} {lv : List (Option Value)} {st : List Value} {σ : kS} {r : Option Value} {τ : kS} {x y : Int32} (d : decode j.2.1 pc = .ok (.idiv, 1)) (hne : ¬ y = 0) (k : Ex S j (pc + 1) lv (.int (x / y) :: st) σ r τ) : Ex S j pc lv (.int y :: .int x :: st) σ r τ := by
  intro p l e s m args below meth c D cA ad H locs ls E hP hD hS hl
  exact lv_idiv E.1 E.2.1 d hne (k p l e s m args below meth c D cA ad H locs ls E hP hD hS hl)
theorem x_irem {S : kH} {j : kM} {pc : Nat} {lv : List (Option Value)} {st : List Value} {σ : kS} {r : Option Value} {τ : kS} {x y : Int32} (d : decode j.2.1 pc = .ok (.irem, 1)) (hne : ¬ y = 0) (k : Ex S j (pc + 1) lv (.int (x - x / y * y) :: st) σ r τ) : Ex S j pc lv (.int y :: .int x :: st) σ r τ := by
  intro p l e s m args below meth c D cA ad H locs ls E hP hD hS hl
  exact lv_irem E.1 E.2.1 d hne (k p l e s m args below meth c D cA ad H locs ls E hP hD hS hl)
theorem x_ladd {S : kH} {j : kM} {pc : Nat} {lv : List (Option Value)} {st : List Value} {σ : kS} {r : Option Value} {τ : kS} {x y : Int64} (d : decode j.2.1 pc = .ok (.ladd, 1)) (k : Ex S j (pc + 1) lv (.long (x + y) :: st) σ r τ) : Ex S j pc lv (.long y :: .long x :: st) σ r τ := by
  intro p l e s m args below meth c D cA ad H locs ls E hP hD hS hl
  exact lv_ladd E.1 E.2.1 d (k p l e s m args below meth c D cA ad H locs ls E hP hD hS hl)
theorem x_lsub {S : kH} {j : kM} {pc : Nat} {lv : List (Option Value)} {st : List Value} {σ : kS} {r : Option Value} {τ : kS} {x y : Int64} (d : decode j.2.1 pc = .ok (.lsub, 1)) (k : Ex S j (pc + 1) lv (.long (x - y) :: st) σ r τ) : Ex S j pc lv (.long y :: .long x :: st) σ r τ := by
  intro p l e s m args below meth c D cA ad H locs ls E hP hD hS hl
  exact lv_lsub E.1 E.2.1 d (k p l e s m args below meth c D cA ad H locs ls E hP hD hS hl)
theorem x_lmul {S : kH} {j : kM} {pc : Nat} {lv : List (Option Value)} {st : List Value} {σ : kS} {r : Option Value} {τ : kS} {x y : Int64} (d : decode j.2.1 pc = .ok (.lmul, 1)) (k : Ex S j (pc + 1) lv (.long (x * y) :: st) σ r τ) : Ex S j pc lv (.long y :: .long x :: st) σ r τ := by
  intro p l e s m args below meth c D cA ad H locs ls E hP hD hS hl
  exact lv_lmul E.1 E.2.1 d (k p l e s m args below meth c D cA ad H locs ls E hP hD hS hl)
theorem x_land {S : kH} {j : kM} {pc : Nat} {lv : List (Option Value)} {st : List Value} {σ : kS} {r : Option Value} {τ : kS} {x y : Int64} (d : decode j.2.1 pc = .ok (.land, 1)) (k : Ex S j (pc + 1) lv (.long (x &&& y) :: st) σ r τ) : Ex S j pc lv (.long y :: .long x :: st) σ r τ := by
  intro p l e s m args below meth c D cA ad H locs ls E hP hD hS hl
  exact lv_land E.1 E.2.1 d (k p l e s m args below meth c D cA ad H locs ls E hP hD hS hl)
theorem x_lor {S : kH} {j : kM} {pc : Nat} {lv : List (Option Value)} {st : List Value} {σ : kS} {r : Option Value} {τ : kS} {x y : Int64} (d : decode j.2.1 pc = .ok (.lor, 1)) (k : Ex S j (pc + 1) lv (.long (x ||| y) :: st) σ r τ) : Ex S j pc lv (.long y :: .long x :: st) σ r τ := by
  intro p l e s m args below meth c D cA ad H locs ls E hP hD hS hl
  exact lv_lor E.1 E.2.1 d (k p l e s m args below meth c D cA ad H locs ls E hP hD hS hl)
theorem x_ldiv {S : kH} {j : kM} {pc : Nat} {lv : List (Option Value)} {st : List Value} {σ : kS} {r : Option Value} {τ : kS} {x y : Int64} (d : decode j.2.1 pc = .ok (.ldiv, 1)) (hne : ¬ y = 0) (k : Ex S j (pc + 1) lv (.long (x / y) :: st) σ r τ) : Ex S j pc lv (.long y :: .long x :: st) σ r τ := by
  intro p l e s m args below meth c D cA ad H locs ls E hP hD hS hl
  exact lv_ldiv E.1 E.2.1 d hne (k p l e s m args below meth c D cA ad H locs ls E hP hD hS hl)
theorem x_lrem {S : kH} {j : kM} {pc : Nat} {lv : List (Option Value)} {st : List Value} {σ : kS} {r : Option Value} {τ : kS} {x y : Int64} (d : decode j.2.1 pc = .ok (.lrem, 1)) (hne : ¬ y = 0) (k : Ex S j (pc + 1) lv (.long (x - x / y * y) :: st) σ r τ) : Ex S j pc lv (.long y :: .long x :: st) σ r τ := by
  intro p l e s m args below meth c D cA ad H locs ls E hP hD hS hl
  exact lv_lrem E.1 E.2.1 d hne (k p l e s m args below meth c D cA ad H locs ls E hP hD hS hl)
theorem x_ineg {S : kH} {j : kM} {pc : Nat} {lv : List (Option Value)} {st : List Value} {σ : kS} {r : Option Value} {τ : kS} {x : Int32} (d : decode j.2.1 pc = .ok (.ineg, 1)) (k : Ex S j (pc + 1) lv (.int (-x) :: st) σ r τ) : Ex S j pc lv (.int x :: st) σ r τ := by
  intro p l e s m args below meth c D cA ad H locs ls E hP hD hS hl
  exact lv_ineg E.1 E.2.1 d (k p l e s m args below meth c D cA ad H locs ls E hP hD hS hl)
theorem x_i2l {S : kH} {j : kM} {pc : Nat} {lv : List (Option Value)} {st : List Value} {σ : kS} {r : Option Value} {τ : kS} {x : Int32} (d : decode j.2.1 pc = .ok (.i2l, 1)) (k : Ex S j (pc + 1) lv (.long x.toInt64 :: st) σ r τ) : Ex S j pc lv (.int x :: st) σ r τ := by
  intro p l e s m args below meth c D cA ad H locs ls E hP hD hS hl
  exact lv_i2l E.1 E.2.1 d rfl (k p l e s m args below meth c D cA ad H locs ls E hP hD hS hl)
theorem x_l2i {S : kH} {j : kM} {pc : Nat} {lv : List (Option Value)} {st : List Value} {σ : kS} {r : Option Value} {τ : kS} {x : Int64} (d : decode j.2.1 pc = .ok (.l2i, 1)) (k : Ex S j (pc + 1) lv (.int x.toInt32 :: st) σ r τ) : Ex S j pc lv (.long x :: st) σ r τ := by
  intro p l e s m args below meth c D cA ad H locs ls E hP hD hS hl
  exact lv_l2i E.1 E.2.1 d rfl (k p l e s m args below meth c D cA ad H locs ls E hP hD hS hl)
theorem x_i2b {S : kH} {j : kM} {pc : Nat} {lv : List (Option Value)} {st : List Value} {σ : kS} {r : Option Value} {τ : kS} {x : Int32} (d : decode j.2.1 pc = .ok (.i2b, 1)) (k : Ex S j (pc + 1) lv (.int x.toInt8.toInt32 :: st) σ r τ) : Ex S j pc lv (.int x :: st) σ r τ := by
  intro p l e s m args below meth c D cA ad H locs ls E hP hD hS hl
  exact lv_i2b E.1 E.2.1 d rfl (k p l e s m args below meth c D cA ad H locs ls E hP hD hS hl)
theorem x_i2s {S : kH} {j : kM} {pc : Nat} {lv : List (Option Value)} {st : List Value} {σ : kS} {r : Option Value} {τ : kS} {x : Int32} (d : decode j.2.1 pc = .ok (.i2s, 1)) (k : Ex S j (pc + 1) lv (.int x.toInt16.toInt32 :: st) σ r τ) : Ex S j pc lv (.int x :: st) σ r τ := by
  intro p l e s m args below meth c D cA ad H locs ls E hP hD hS hl
  exact lv_i2s E.1 E.2.1 d rfl (k p l e s m args below meth c D cA ad H locs ls E hP hD hS hl)
theorem x_lcmp {S : kH} {j : kM} {pc : Nat} {lv : List (Option Value)} {st : List Value} {σ : kS} {r : Option Value} {τ : kS} {x y : Int64} (d : decode j.2.1 pc = .ok (.lcmp, 1)) (k : Ex S j (pc + 1) lv (.int (lg_cmp x y) :: st) σ r τ) : Ex S j pc lv (.long y :: .long x :: st) σ r τ := by
  intro p l e s m args below meth c D cA ad H locs ls E hP hD hS hl
  exact W.lcmp E.1 E.2.1 d (k p l e s m args below meth c D cA ad H locs ls E hP hD hS hl)
theorem x_iconst {S : kH} {j : kM} {pc : Nat} {lv : List (Option Value)} {st : List Value} {σ : kS} {r : Option Value} {τ : kS} {n : Int} (v : Int32) (d : decode j.2.1 pc = .ok (.iconst n, 1)) (hv : Int32.ofInt n = v) (k : Ex S j (pc + 1) lv (.int v :: st) σ r τ) : Ex S j pc lv (st) σ r τ := by
  intro p l e s m args below meth c D cA ad H locs ls E hP hD hS hl
  exact lv_iconst E.1 E.2.1 d hv (k p l e s m args below meth c D cA ad H locs ls E hP hD hS hl)
theorem x_bipush {S : kH} {j : kM} {pc : Nat} {lv : List (Option Value)} {st : List Value} {σ : kS} {r : Option Value} {τ : kS} {n : Int} (v : Int32) (d : decode j.2.1 pc = .ok (.bipush n, 2)) (hv : (Int8.ofInt n).toInt32 = v) (k : Ex S j (pc + 2) lv (.int v :: st) σ r τ) : Ex S j pc lv (st) σ r τ := by
  intro p l e s m args below meth c D cA ad H locs ls E hP hD hS hl
  exact lv_bipush E.1 E.2.1 d hv (k p l e s m args below meth c D cA ad H locs ls E hP hD hS hl)
theorem x_sipush {S : kH} {j : kM} {pc : Nat} {lv : List (Option Value)} {st : List Value} {σ : kS} {r : Option Value} {τ : kS} {n : Int} (v : Int32) (d : decode j.2.1 pc = .ok (.sipush n, 3)) (hv : (Int16.ofInt n).toInt32 = v) (k : Ex S j (pc + 3) lv (.int v :: st) σ r τ) : Ex S j pc lv (st) σ r τ := by
  intro p l e s m args below meth c D cA ad H locs ls E hP hD hS hl
  exact lv_sipush E.1 E.2.1 d hv (k p l e s m args below meth c D cA ad H locs ls E hP hD hS hl)
theorem x_lconst {S : kH} {j : kM} {pc : Nat} {lv : List (Option Value)} {st : List Value} {σ : kS} {r : Option Value} {τ : kS} {n : Fin 2} (v : Int64) (d : decode j.2.1 pc = .ok (.lconst n, 1)) (hv : Int64.ofNat (n : Nat) = v) (k : Ex S j (pc + 1) lv (.long v :: st) σ r τ) : Ex S j pc lv (st) σ r τ := by
  intro p l e s m args below meth c D cA ad H locs ls E hP hD hS hl
  exact lv_lconst E.1 E.2.1 d hv (k p l e s m args below meth c D cA ad H locs ls E hP hD hS hl)
theorem x_iload_n {S : kH} {j : kM} {pc : Nat} {lv : List (Option Value)} {st : List Value} {σ : kS} {r : Option Value} {τ : kS} {n : Fin 4} (i : Nat) {x : Int32} (d : decode j.2.1 pc = .ok (.iload_n n, 1)) (hi : (n : Nat) = i) (hv : lv[i]? = some (some (.int x))) (k : Ex S j (pc + 1) lv (.int x :: st) σ r τ) : Ex S j pc lv (st) σ r τ := by
  intro p l e s m args below meth c D cA ad H locs ls E hP hD hS hl
  exact lv_iload_n E.1 E.2.1 d hi (hl.2.2 i _ hv) (k p l e s m args below meth c D cA ad H locs ls E hP hD hS hl)
theorem x_iload {S : kH} {j : kM} {pc : Nat} {lv : List (Option Value)} {st : List Value} {σ : kS} {r : Option Value} {τ : kS} {i : Nat} {x : Int32} (d : decode j.2.1 pc = .ok (.iload i, 2)) (hv : lv[i]? = some (some (.int x))) (k : Ex S j (pc + 2) lv (.int x :: st) σ r τ) : Ex S j pc lv (st) σ r τ := by
  intro p l e s m args below meth c D cA ad H locs ls E hP hD hS hl
  exact lv_iload E.1 E.2.1 d (hl.2.2 i _ hv) (k p l e s m args below meth c D cA ad H locs ls E hP hD hS hl)
theorem x_lload_n {S : kH} {j : kM} {pc : Nat} {lv : List (Option Value)} {st : List Value} {σ : kS} {r : Option Value} {τ : kS} {n : Fin 4} (i : Nat) {x : Int64} (d : decode j.2.1 pc = .ok (.lload_n n, 1)) (hi : (n : Nat) = i) (hv : lv[i]? = some (some (.long x))) (k : Ex S j (pc + 1) lv (.long x :: st) σ r τ) : Ex S j pc lv (st) σ r τ := by
  intro p l e s m args below meth c D cA ad H locs ls E hP hD hS hl
  exact lv_lload_n E.1 E.2.1 d hi (hl.2.2 i _ hv) (k p l e s m args below meth c D cA ad H locs ls E hP hD hS hl)
theorem x_lload {S : kH} {j : kM} {pc : Nat} {lv : List (Option Value)} {st : List Value} {σ : kS} {r : Option Value} {τ : kS} {i : Nat} {x : Int64} (d : decode j.2.1 pc = .ok (.lload i, 2)) (hv : lv[i]? = some (some (.long x))) (k : Ex S j (pc + 2) lv (.long x :: st) σ r τ) : Ex S j pc lv (st) σ r τ := by
  intro p l e s m args below meth c D cA ad H locs ls E hP hD hS hl
  exact lv_lload E.1 E.2.1 d (hl.2.2 i _ hv) (k p l e s m args below meth c D cA ad H locs ls E hP hD hS hl)
theorem x_aload_n {S : kH} {j : kM} {pc : Nat} {lv : List (Option Value)} {st : List Value} {σ : kS} {r : Option Value} {τ : kS} {n : Fin 4} (i : Nat) {x : Nat} (d : decode j.2.1 pc = .ok (.aload_n n, 1)) (hi : (n : Nat) = i) (hv : lv[i]? = some (some (.ref x))) (k : Ex S j (pc + 1) lv (.ref x :: st) σ r τ) : Ex S j pc lv (st) σ r τ := by
  intro p l e s m args below meth c D cA ad H locs ls E hP hD hS hl
  exact lv_aload_n E.1 E.2.1 d hi (hl.2.2 i _ hv) (k p l e s m args below meth c D cA ad H locs ls E hP hD hS hl)
theorem x_aload {S : kH} {j : kM} {pc : Nat} {lv : List (Option Value)} {st : List Value} {σ : kS} {r : Option Value} {τ : kS} {i : Nat} {x : Nat} (d : decode j.2.1 pc = .ok (.aload i, 2)) (hv : lv[i]? = some (some (.ref x))) (k : Ex S j (pc + 2) lv (.ref x :: st) σ r τ) : Ex S j pc lv (st) σ r τ := by
  intro p l e s m args below meth c D cA ad H locs ls E hP hD hS hl
  exact lv_aload E.1 E.2.1 d (hl.2.2 i _ hv) (k p l e s m args below meth c D cA ad H locs ls E hP hD hS hl)
theorem x_istore_n {S : kH} {j : kM} {pc : Nat} {lv : List (Option Value)} {st : List Value} {σ : kS} {r : Option Value} {τ : kS} {n : Fin 4} (i : Nat) {x : Int32} (d : decode j.2.1 pc = .ok (.istore_n n, 1)) (hi : (n : Nat) = i) (hn : i < j.2.2.1) (ok : k_ok1 lv i = true) (k : Ex S j (pc + 1) (lv.set i (some (.int x))) st σ r τ) : Ex S j pc lv (.int x :: st) σ r τ := by
  intro p l e s m args below meth c D cA ad H locs ls E hP hD hS hl
  exact lv_istore_n E.1 E.2.1 d hi (k_ll_has hl) hn rfl (fun ls2 h2 => k p l e s m args below meth c D cA ad H locs ls2 E hP hD hS (k_lh_set1 (v := .int x) h2 ok))
theorem x_istore {S : kH} {j : kM} {pc : Nat} {lv : List (Option Value)} {st : List Value} {σ : kS} {r : Option Value} {τ : kS} {i : Nat} {x : Int32} (d : decode j.2.1 pc = .ok (.istore i, 2)) (hn : i < j.2.2.1) (ok : k_ok1 lv i = true) (k : Ex S j (pc + 2) (lv.set i (some (.int x))) st σ r τ) : Ex S j pc lv (.int x :: st) σ r τ := by
  intro p l e s m args below meth c D cA ad H locs ls E hP hD hS hl
  exact lv_istore E.1 E.2.1 d (k_ll_has hl) hn rfl (fun ls2 h2 => k p l e s m args below meth c D cA ad H locs ls2 E hP hD hS (k_lh_set1 (v := .int x) h2 ok))
theorem x_astore_n {S : kH} {j : kM} {pc : Nat} {lv : List (Option Value)} {st : List Value} {σ : kS} {r : Option Value} {τ : kS} {n : Fin 4} (i : Nat) {x : Nat} (d : decode j.2.1 pc = .ok (.astore_n n, 1)) (hi : (n : Nat) = i) (hn : i < j.2.2.1) (ok : k_ok1 lv i = true) (k : Ex S j (pc + 1) (lv.set i (some (.ref x))) st σ r τ) : Ex S j pc lv (.ref x :: st) σ r τ := by
  intro p l e s m args below meth c D cA ad H locs ls E hP hD hS hl
  exact lv_astore_n E.1 E.2.1 d hi (k_ll_has hl) hn rfl (fun ls2 h2 => k p l e s m args below meth c D cA ad H locs ls2 E hP hD hS (k_lh_set1 (v := .ref x) h2 ok))
theorem x_astore {S : kH} {j : kM} {pc : Nat} {lv : List (Option Value)} {st : List Value} {σ : kS} {r : Option Value} {τ : kS} {i : Nat} {x : Nat} (d : decode j.2.1 pc = .ok (.astore i, 2)) (hn : i < j.2.2.1) (ok : k_ok1 lv i = true) (k : Ex S j (pc + 2) (lv.set i (some (.ref x))) st σ r τ) : Ex S j pc lv (.ref x :: st) σ r τ := by
  intro p l e s m args below meth c D cA ad H locs ls E hP hD hS hl
  exact lv_astore E.1 E.2.1 d (k_ll_has hl) hn rfl (fun ls2 h2 => k p l e s m args below meth c D cA ad H locs ls2 E hP hD hS (k_lh_set1 (v := .ref x) h2 ok))
theorem x_lstore_n {S : kH} {j : kM} {pc : Nat} {lv : List (Option Value)} {st : List Value} {σ : kS} {r : Option Value} {τ : kS} {n : Fin 4} (i : Nat) {x : Int64} (d : decode j.2.1 pc = .ok (.lstore_n n, 1)) (hi : (n : Nat) = i) (hn : i + 1 < j.2.2.1) (ok : k_ok1 lv i = true) (k : Ex S j (pc + 1) ((lv.set i (some (.long x))).set (i + 1) none) st σ r τ) : Ex S j pc lv (.long x :: st) σ r τ := by
  intro p l e s m args below meth c D cA ad H locs ls E hP hD hS hl
  exact lv_lstore_n E.1 E.2.1 d hi (k_ll_has hl) hn rfl (fun ls2 h2 => k p l e s m args below meth c D cA ad H locs ls2 E hP hD hS (k_lh_set2 (v := .long x) h2 ok))
theorem x_lstore {S : kH} {j : kM} {pc : Nat} {lv : List (Option Value)} {st : List Value} {σ : kS} {r : Option Value} {τ : kS} {i : Nat} {x : Int64} (d : decode j.2.1 pc = .ok (.lstore i, 2)) (hn : i + 1 < j.2.2.1) (ok : k_ok1 lv i = true) (k : Ex S j (pc + 2) ((lv.set i (some (.long x))).set (i + 1) none) st σ r τ) : Ex S j pc lv (.long x :: st) σ r τ := by
  intro p l e s m args below meth c D cA ad H locs ls E hP hD hS hl
  exact lv_lstore E.1 E.2.1 d (k_ll_has hl) hn rfl (fun ls2 h2 => k p l e s m args below meth c D cA ad H locs ls2 E hP hD hS (k_lh_set2 (v := .long x) h2 ok))
theorem x_iinc {S : kH} {j : kM} {pc : Nat} {lv : List (Option Value)} {st : List Value} {σ : kS} {r : Option Value} {τ : kS} {i : Nat} {n : Int} {x : Int32} (v : Int32) (d : decode j.2.1 pc = .ok (.iinc i n, 3)) (hn : i < j.2.2.1) (ok : k_ok1 lv i = true) (hx : lv[i]? = some (some (.int x))) (hv : Int32.ofInt n = v) (k : Ex S j (pc + 3) (lv.set i (some (.int (x + v)))) st σ r τ) : Ex S j pc lv st σ r τ := by
  intro p l e s m args below meth c D cA ad H locs ls E hP hD hS hl
  obtain ⟨q, hq⟩ := List.getElem?_of_mem (k_ll_mem (ad := ad) hx)
  exact lv_iinc E.1 E.2.1 d (k_ll_has hl) (k := q) hq (by rw [hv]) hn rfl (fun ls2 h2 => k p l e s m args below meth c D cA ad H locs ls2 E hP hD hS (k_lh_set1 (v := .int (x + v)) h2 ok))
theorem x_dup {S : kH} {j : kM} {pc : Nat} {lv : List (Option Value)} {st : List Value} {σ : kS} {r : Option Value} {τ : kS} {v : Value} (d : decode j.2.1 pc = .ok (.dup, 1)) (hc : v.category = 1) (k : Ex S j (pc + 1) lv (v :: v :: st) σ r τ) : Ex S j pc lv (v :: st) σ r τ := by
  intro p l e s m args below meth c D cA ad H locs ls E hP hD hS hl
  exact lv_dup E.1 E.2.1 d (by rw [k_cv_cat]; exact hc) (k p l e s m args below meth c D cA ad H locs ls E hP hD hS hl)
theorem x_pop {S : kH} {j : kM} {pc : Nat} {lv : List (Option Value)} {st : List Value} {σ : kS} {r : Option Value} {τ : kS} {v : Value} (d : decode j.2.1 pc = .ok (.pop, 1)) (hc : v.category = 1) (k : Ex S j (pc + 1) lv st σ r τ) : Ex S j pc lv (v :: st) σ r τ := by
  intro p l e s m args below meth c D cA ad H locs ls E hP hD hS hl
  exact lv_pop E.1 E.2.1 d (by rw [k_cv_cat]; exact hc) (k p l e s m args below meth c D cA ad H locs ls E hP hD hS hl)
theorem x_dup2 {S : kH} {j : kM} {pc : Nat} {lv : List (Option Value)} {st : List Value} {σ : kS} {r : Option Value} {τ : kS} {v w : Value} (d : decode j.2.1 pc = .ok (.dup2, 1)) (hc : v.category = 1) (hd : w.category = 1) (k : Ex S j (pc + 1) lv (v :: w :: v :: w :: st) σ r τ) : Ex S j pc lv (v :: w :: st) σ r τ := by
  intro p l e s m args below meth c D cA ad H locs ls E hP hD hS hl
  exact lv_dup2_11 E.1 E.2.1 d (by rw [k_cv_cat]; exact hc) (by rw [k_cv_cat]; exact hd) (k p l e s m args below meth c D cA ad H locs ls E hP hD hS hl)
theorem x_if_eq {S : kH} {j : kM} {pc : Nat} {lv : List (Option Value)} {st : List Value} {σ : kS} {r : Option Value} {τ : kS} {x : Int32} {off : Int} (t : Nat) (d : decode j.2.1 pc = .ok (.ifCond .eq off, 3)) (ht : (pc : Int) + off = (t : Int)) (kt : x = 0 → Ex S j t lv st σ r τ) (kf : ¬ x = 0 → Ex S j (pc + 3) lv st σ r τ) : Ex S j pc lv (.int x :: st) σ r τ := by
  intro p l e s m args below meth c D cA ad H locs ls E hP hD hS hl
  exact lv_if_eq E.1 E.2.1 d ht (fun h => kt h p l e s m args below meth c D cA ad H locs ls E hP hD hS hl) (fun h => kf h p l e s m args below meth c D cA ad H locs ls E hP hD hS hl)
theorem x_icmp_eq {S : kH} {j : kM} {pc : Nat} {lv : List (Option Value)} {st : List Value} {σ : kS} {r : Option Value} {τ : kS} {x y : Int32} {off : Int} (t : Nat) (d : decode j.2.1 pc = .ok (.if_icmp .eq off, 3)) (ht : (pc : Int) + off = (t : Int)) (kt : x = y → Ex S j t lv st σ r τ) (kf : ¬ x = y → Ex S j (pc + 3) lv st σ r τ) : Ex S j pc lv (.int y :: .int x :: st) σ r τ := by
  intro p l e s m args below meth c D cA ad H locs ls E hP hD hS hl
  exact lv_icmp_eq E.1 E.2.1 d ht (fun h => kt h p l e s m args below meth c D cA ad H locs ls E hP hD hS hl) (fun h => kf h p l e s m args below meth c D cA ad H locs ls E hP hD hS hl)
theorem x_if_ne {S : kH} {j : kM} {pc : Nat} {lv : List (Option Value)} {st : List Value} {σ : kS} {r : Option Value} {τ : kS} {x : Int32} {off : Int} (t : Nat) (d : decode j.2.1 pc = .ok (.ifCond .ne off, 3)) (ht : (pc : Int) + off = (t : Int)) (kt : ¬ x = 0 → Ex S j t lv st σ r τ) (kf : x = 0 → Ex S j (pc + 3) lv st σ r τ) : Ex S j pc lv (.int x :: st) σ r τ := by
  intro p l e s m args below meth c D cA ad H locs ls E hP hD hS hl
  exact lv_if_ne E.1 E.2.1 d ht (fun h => kt h p l e s m args below meth c D cA ad H locs ls E hP hD hS hl) (fun h => kf h p l e s m args below meth c D cA ad H locs ls E hP hD hS hl)
theorem x_icmp_ne {S : kH} {j : kM} {pc : Nat} {lv : List (Option Value)} {st : List Value} {σ : kS} {r : Option Value} {τ : kS} {x y : Int32} {off : Int} (t : Nat) (d : decode j.2.1 pc = .ok (.if_icmp .ne off, 3)) (ht : (pc : Int) + off = (t : Int)) (kt : ¬ x = y → Ex S j t lv st σ r τ) (kf : x = y → Ex S j (pc + 3) lv st σ r τ) : Ex S j pc lv (.int y :: .int x :: st) σ r τ := by
  intro p l e s m args below meth c D cA ad H locs ls E hP hD hS hl
  exact lv_icmp_ne E.1 E.2.1 d ht (fun h => kt h p l e s m args below meth c D cA ad H locs ls E hP hD hS hl) (fun h => kf h p l e s m args below meth c D cA ad H locs ls E hP hD hS hl)
theorem x_if_lt {S : kH} {j : kM} {pc : Nat} {lv : List (Option Value)} {st : List Value} {σ : kS} {r : Option Value} {τ : kS} {x : Int32} {off : Int} (t : Nat) (d : decode j.2.1 pc = .ok (.ifCond .lt off, 3)) (ht : (pc : Int) + off = (t : Int)) (kt : x < 0 → Ex S j t lv st σ r τ) (kf : ¬ x < 0 → Ex S j (pc + 3) lv st σ r τ) : Ex S j pc lv (.int x :: st) σ r τ := by
  intro p l e s m args below meth c D cA ad H locs ls E hP hD hS hl
  exact lv_if_lt E.1 E.2.1 d ht (fun h => kt h p l e s m args below meth c D cA ad H locs ls E hP hD hS hl) (fun h => kf h p l e s m args below meth c D cA ad H locs ls E hP hD hS hl)
theorem x_icmp_lt {S : kH} {j : kM} {pc : Nat} {lv : List (Option Value)} {st : List Value} {σ : kS} {r : Option Value} {τ : kS} {x y : Int32} {off : Int} (t : Nat) (d : decode j.2.1 pc = .ok (.if_icmp .lt off, 3)) (ht : (pc : Int) + off = (t : Int)) (kt : x < y → Ex S j t lv st σ r τ) (kf : ¬ x < y → Ex S j (pc + 3) lv st σ r τ) : Ex S j pc lv (.int y :: .int x :: st) σ r τ := by
  intro p l e s m args below meth c D cA ad H locs ls E hP hD hS hl
  exact lv_icmp_lt E.1 E.2.1 d ht (fun h => kt h p l e s m args below meth c D cA ad H locs ls E hP hD hS hl) (fun h => kf h p l e s m args below meth c D cA ad H locs ls E hP hD hS hl)
theorem x_if_ge {S : kH} {j : kM} {pc : Nat} {lv : List (Option Value)} {st : List Value} {σ : kS} {r : Option Value} {τ : kS} {x : Int32} {off : Int} (t : Nat) (d : decode j.2.1 pc = .ok (.ifCond .ge off, 3)) (ht : (pc : Int) + off = (t : Int)) (kt : 0 ≤ x → Ex S j t lv st σ r τ) (kf : ¬ 0 ≤ x → Ex S j (pc + 3) lv st σ r τ) : Ex S j pc lv (.int x :: st) σ r τ := by
  intro p l e s m args below meth c D cA ad H locs ls E hP hD hS hl
  exact lv_if_ge E.1 E.2.1 d ht (fun h => kt h p l e s m args below meth c D cA ad H locs ls E hP hD hS hl) (fun h => kf h p l e s m args below meth c D cA ad H locs ls E hP hD hS hl)
theorem x_icmp_ge {S : kH} {j : kM} {pc : Nat} {lv : List (Option Value)} {st : List Value} {σ : kS} {r : Option Value} {τ : kS} {x y : Int32} {off : Int} (t : Nat) (d : decode j.2.1 pc = .ok (.if_icmp .ge off, 3)) (ht : (pc : Int) + off = (t : Int)) (kt : y ≤ x → Ex S j t lv st σ r τ) (kf : ¬ y ≤ x → Ex S j (pc + 3) lv st σ r τ) : Ex S j pc lv (.int y :: .int x :: st) σ r τ := by
  intro p l e s m args below meth c D cA ad H locs ls E hP hD hS hl
  exact lv_icmp_ge E.1 E.2.1 d ht (fun h => kt h p l e s m args below meth c D cA ad H locs ls E hP hD hS hl) (fun h => kf h p l e s m args below meth c D cA ad H locs ls E hP hD hS hl)
theorem x_if_gt {S : kH} {j : kM} {pc : Nat} {lv : List (Option Value)} {st : List Value} {σ : kS} {r : Option Value} {τ : kS} {x : Int32} {off : Int} (t : Nat) (d : decode j.2.1 pc = .ok (.ifCond .gt off, 3)) (ht : (pc : Int) + off = (t : Int)) (kt : 0 < x → Ex S j t lv st σ r τ) (kf : ¬ 0 < x → Ex S j (pc + 3) lv st σ r τ) : Ex S j pc lv (.int x :: st) σ r τ := by
  intro p l e s m args below meth c D cA ad H locs ls E hP hD hS hl
  exact lv_if_gt E.1 E.2.1 d ht (fun h => kt h p l e s m args below meth c D cA ad H locs ls E hP hD hS hl) (fun h => kf h p l e s m args below meth c D cA ad H locs ls E hP hD hS hl)
theorem x_icmp_gt {S : kH} {j : kM} {pc : Nat} {lv : List (Option Value)} {st : List Value} {σ : kS} {r : Option Value} {τ : kS} {x y : Int32} {off : Int} (t : Nat) (d : decode j.2.1 pc = .ok (.if_icmp .gt off, 3)) (ht : (pc : Int) + off = (t : Int)) (kt : y < x → Ex S j t lv st σ r τ) (kf : ¬ y < x → Ex S j (pc + 3) lv st σ r τ) : Ex S j pc lv (.int y :: .int x :: st) σ r τ := by
  intro p l e s m args below meth c D cA ad H locs ls E hP hD hS hl
  exact lv_icmp_gt E.1 E.2.1 d ht (fun h => kt h p l e s m args below meth c D cA ad H locs ls E hP hD hS hl) (fun h => kf h p l e s m args below meth c D cA ad H locs ls E hP hD hS hl)
theorem x_if_le {S : kH} {j : kM} {pc : Nat} {lv : List (Option Value)} {st : List Value} {σ : kS} {r : Option Value} {τ : kS} {x : Int32} {off : Int} (t : Nat) (d : decode j.2.1 pc = .ok (.ifCond .le off, 3)) (ht : (pc : Int) + off = (t : Int)) (kt : x ≤ 0 → Ex S j t lv st σ r τ) (kf : ¬ x ≤ 0 → Ex S j (pc + 3) lv st σ r τ) : Ex S j pc lv (.int x :: st) σ r τ := by
  intro p l e s m args below meth c D cA ad H locs ls E hP hD hS hl
  exact lv_if_le E.1 E.2.1 d ht (fun h => kt h p l e s m args below meth c D cA ad H locs ls E hP hD hS hl) (fun h => kf h p l e s m args below meth c D cA ad H locs ls E hP hD hS hl)
theorem x_icmp_le {S : kH} {j : kM} {pc : Nat} {lv : List (Option Value)} {st : List Value} {σ : kS} {r : Option Value} {τ : kS} {x y : Int32} {off : Int} (t : Nat) (d : decode j.2.1 pc = .ok (.if_icmp .le off, 3)) (ht : (pc : Int) + off = (t : Int)) (kt : x ≤ y → Ex S j t lv st σ r τ) (kf : ¬ x ≤ y → Ex S j (pc + 3) lv st σ r τ) : Ex S j pc lv (.int y :: .int x :: st) σ r τ := by
  intro p l e s m args below meth c D cA ad H locs ls E hP hD hS hl
  exact lv_icmp_le E.1 E.2.1 d ht (fun h => kt h p l e s m args below meth c D cA ad H locs ls E hP hD hS hl) (fun h => kf h p l e s m args below meth c D cA ad H locs ls E hP hD hS hl)
theorem x_goto {S : kH} {j : kM} {pc : Nat} {lv : List (Option Value)} {st : List Value} {σ : kS} {r : Option Value} {τ : kS} {off : Int} (t : Nat) (d : decode j.2.1 pc = .ok (.goto off, 3)) (ht : (pc : Int) + off = (t : Int)) (k : Ex S j t lv st σ r τ) : Ex S j pc lv st σ r τ := by
  intro p l e s m args below meth c D cA ad H locs ls E hP hD hS hl
  exact lv_goto E.1 E.2.1 d ht (k p l e s m args below meth c D cA ad H locs ls E hP hD hS hl)
/-- fewer locals are known -/
theorem x_fewer {S : kH} {j : kM} {pc : Nat} {lv : List (Option Value)} {st : List Value} {σ : kS} {r : Option Value} {τ : kS} (lv' : List (Option Value)) (h : ∀ (i : Nat) (v : Value), lv'[i]? = some (some v) → lv[i]? = some (some v)) (k : Ex S j pc lv' st σ r τ) : Ex S j pc lv st σ r τ := by
  intro p l e s m args below meth c D cA ad H locs ls E hP hD hS hl
  exact k p l e s m args below meth c D cA ad H locs ls E hP hD hS ⟨hl.1, hl.2.1, fun i v hv => hl.2.2 i v (h i v hv)⟩
theorem x_eq {S : kH} {j : kM} {pc : Nat} {lv : List (Option Value)} {st : List Value} {σ : kS} {r : Option Value} {τ : kS} {lv' : List (Option Value)} {st' : List Value} {σ' : kS} (k : Ex S j pc lv' st' σ' r τ) (h1 : lv = lv') (h2 : st = st') (h3 : σ = σ') : Ex S j pc lv st σ r τ := by
  subst h1; subst h2; subst h3; exact k
/-! ends -/
theorem k_end {S : kH} {D : va_G} {cA : Nat → ClassId} {ad : Nat → Nat} {σ : kS} {r : Option Value} {args : Array Value} {s : State} {H : Heap} {locs : List Loc} {o : Outcome} (ho : o = .returned (r.map (k_cv ad))) (hP : va_P D vwCl (k_wd S cA ad σ) H) (hS : va_S (k_A ad S.length s.heap.size) s.heap H locs) (t : State) (ht : t.heap = H) : k_Q S D cA ad r σ args s o t :=
  ⟨⟨ho, by rw [ht]; exact hP⟩, hS.F ht⟩
theorem x_ireturn {S : kH} {j : kM} {pc : Nat} {lv : List (Option Value)} {σ : kS} {x : Int32} (d : decode j.2.1 pc = .ok (.ireturn, 1)) (hr : j.2.2.2.1 = some .int) : Ex S j pc lv [.int x] σ (some (.int x)) σ := by
  intro p l e s m args below meth c D cA ad H locs ls E hP hD hS hl
  exact W.iret E.1 E.2.1 (E.2.2.2.1.trans hr) (fun t ht _ => k_end rfl hP hS t ht) hS.2.2 d E.2.2.2.2.1
theorem x_zreturn {S : kH} {j : kM} {pc : Nat} {lv : List (Option Value)} {σ : kS} {x : Int32} (d : decode j.2.1 pc = .ok (.ireturn, 1)) (hr : j.2.2.2.1 = some .boolean) (hx : narrow .boolean (.int x) = .int x) : Ex S j pc lv [.int x] σ (some (.int x)) σ := by
  intro p l e s m args below meth c D cA ad H locs ls E hP hD hS hl
  exact W.zret E.1 E.2.1 (E.2.2.2.1.trans hr) hx (fun t ht _ => k_end rfl hP hS t ht) hS.2.2 d E.2.2.2.2.1
theorem x_lreturn {S : kH} {j : kM} {pc : Nat} {lv : List (Option Value)} {σ : kS} {x : Int64} (d : decode j.2.1 pc = .ok (.lreturn, 1)) (hr : j.2.2.2.1 = some .long) : Ex S j pc lv [.long x] σ (some (.long x)) σ := by
  intro p l e s m args below meth c D cA ad H locs ls E hP hD hS hl
  exact W.lret E.1 E.2.1 (E.2.2.2.1.trans hr) (fun t ht _ => k_end rfl hP hS t ht) hS.2.2 d E.2.2.2.2.1
theorem x_return {S : kH} {j : kM} {pc : Nat} {lv : List (Option Value)} {σ : kS} (d : decode j.2.1 pc = .ok (.return_, 1)) (hr : j.2.2.2.1 = none) : Ex S j pc lv [] σ none σ := by
  intro p l e s m args below meth c D cA ad H locs ls E hP hD hS hl
  exact W.vret E.1 E.2.1 (E.2.2.2.1.trans hr) (fun t ht _ => k_end rfl hP hS t ht) hS.2.2 d E.2.2.2.2.1
/-! constants of a pool -/
theorem x_ldc {S : kH} {j : kM} {pc : Nat} {lv : List (Option Value)} {st : List Value} {σ : kS} {r : Option Value} {τ : kS} {i : Nat} {v : Int32} (d : decode j.2.1 pc = .ok (.ldc i, 2)) (hw : Cond.constant j.1.cls i v ∈ k_ws) (k : Ex S j (pc + 2) lv (.int v :: st) σ r τ) : Ex S j pc lv st σ r τ := by
  intro p l e s m args below meth c D cA ad H locs ls E hP hD hS hl
  exact lv_ldc E.1 E.2.1 E.2.2.2.2.2.1 (E.2.2.2.2.2.2.1 _ (List.mem_cons_of_mem _ hw)) d (k p l e s m args below meth c D cA ad H locs ls E hP hD hS hl)
theorem x_ldc_w {S : kH} {j : kM} {pc : Nat} {lv : List (Option Value)} {st : List Value} {σ : kS} {r : Option Value} {τ : kS} {i : Nat} {v : Int32} (d : decode j.2.1 pc = .ok (.ldc_w i, 3)) (hw : Cond.constant j.1.cls i v ∈ k_ws) (k : Ex S j (pc + 3) lv (.int v :: st) σ r τ) : Ex S j pc lv st σ r τ := by
  intro p l e s m args below meth c D cA ad H locs ls E hP hD hS hl
  exact lv_ldcw E.1 E.2.1 E.2.2.2.2.2.1 (E.2.2.2.2.2.2.1 _ (List.mem_cons_of_mem _ hw)) d (k p l e s m args below meth c D cA ad H locs ls E hP hD hS hl)
theorem x_ldc2 {S : kH} {j : kM} {pc : Nat} {lv : List (Option Value)} {st : List Value} {σ : kS} {r : Option Value} {τ : kS} {i : Nat} {v : Int64} (d : decode j.2.1 pc = .ok (.ldc2_w i, 3)) (hw : Cond.constantLong j.1.cls i v ∈ k_ws) (k : Ex S j (pc + 3) lv (.long v :: st) σ r τ) : Ex S j pc lv st σ r τ := by
  intro p l e s m args below meth c D cA ad H locs ls E hP hD hS hl
  exact lv_ldc2 E.1 E.2.1 E.2.2.2.2.2.1 (E.2.2.2.2.2.2.1 _ (List.mem_cons_of_mem _ hw)) d (k p l e s m args below meth c D cA ad H locs ls E hP hD hS hl)
/-! switches -/
def k_tb (pc : Nat) (x : Int32) (P : Nat → Prop) : Int → List Int → Prop
  | _, [] => True
  | lo, o :: os => (x.toInt = lo → P ((pc : Int) + o).toNat) ∧ k_tb pc x P (lo + 1) os
theorem k_tb_at {pc : Nat} {x : Int32} {P : Nat → Prop} : ∀ (os : List Int) (lo : Int) (i : Nat) (o : Int), k_tb pc x P lo os → os[i]? = some o → x.toInt = lo + i → P ((pc : Int) + o).toNat := by
  intro os
  induction os with
  | nil => intro lo i o _ h; simp at h
  | cons a os ih =>
    intro lo i o h hi hx
    cases i with
    | zero =>
      simp at hi
      subst hi
      exact h.1 (by simpa using hx)
    | succ i =>
      simp at hi
      exact ih (lo + 1) i o h.2 hi (by rw [hx]; push_cast; omega)
theorem x_table {S : kH} {j : kM} {pc : Nat} {lv : List (Option Value)} {st : List Value} {σ : kS} {r : Option Value} {τ : kS} {x : Int32} {dflt lo hi : Int} {offs : Array Int} {len : Nat} (td : Nat) (d : decode j.2.1 pc = .ok (.tableswitch dflt lo hi offs, len)) (hsz : (offs.size : Int) = hi - lo + 1) (hpos : (offs.toList.all fun o => decide (0 ≤ (pc : Int) + o)) = true) (ht : (pc : Int) + dflt = (td : Int))
    (ki : k_tb pc x (fun t => Ex S j t lv st σ r τ) lo offs.toList) (ko : (x.toInt < lo ∨ hi < x.toInt) → Ex S j td lv st σ r τ) : Ex S j pc lv (.int x :: st) σ r τ := by
  intro p l e s m args below meth c D cA ad H locs ls E hP hD hS hl
  by_cases h : x.toInt < lo ∨ hi < x.toInt
  · exact lv_tableOut E.1 E.2.1 d h ht (ko h p l e s m args below meth c D cA ad H locs ls E hP hD hS hl)
  · have hb : (x.toInt - lo).toNat < offs.size := by omega
    have ho : offs[(x.toInt - lo).toNat]? = some offs[(x.toInt - lo).toNat] := Array.getElem?_eq_getElem hb
    have hm : offs[(x.toInt - lo).toNat] ∈ offs.toList := by simp
    have hp := of_decide_eq_true (List.all_eq_true.mp hpos _ hm)
    refine lv_tableIn E.1 E.2.1 d (fun q => h (Or.inl q)) (fun q => h (Or.inr q)) ho (tgt := ((pc : Int) + offs[(x.toInt - lo).toNat]).toNat) (by omega) ?_
    exact k_tb_at offs.toList lo (x.toInt - lo).toNat _ ki (by rw [Array.getElem?_toList]; exact ho) (by omega) p l e s m args below meth c D cA ad H locs ls E hP hD hS hl
def k_lk (pc : Nat) (x : Int32) (P : Nat → Prop) (dflt : Int) : List (Int × Int) → Prop
  | [] => P ((pc : Int) + dflt).toNat
  | q :: qs => (x.toInt = q.1 → P ((pc : Int) + q.2).toNat) ∧ (¬ x.toInt = q.1 → k_lk pc x P dflt qs)
theorem k_lk_at {pc : Nat} {x : Int32} {P : Nat → Prop} {dflt : Int} : ∀ (qs : List (Int × Int)), k_lk pc x P dflt qs → P ((pc : Int) + Op.lookupswitch.offset qs dflt x.toInt).toNat := by
  intro qs
  induction qs with
  | nil => intro h; exact h
  | cons q qs ih =>
    intro h
    obtain ⟨a, o⟩ := q
    rw [Op.lookupswitch.offset_cons]
    by_cases hx : x.toInt = a
    · rw [if_pos hx.symm]; exact h.1 hx
    · rw [if_neg (fun z => hx z.symm)]; exact ih (h.2 hx)
theorem k_lk_pos {pc : Nat} {x dflt : Int} : ∀ (qs : List (Int × Int)), (qs.all fun o => decide (0 ≤ (pc : Int) + o.2)) = true → 0 ≤ (pc : Int) + dflt → 0 ≤ (pc : Int) + Op.lookupswitch.offset qs dflt x := by
  intro qs
  induction qs with
  | nil => intro _ h; exact h
  | cons q qs ih =>
    intro h h2
    obtain ⟨a, o⟩ := q
    simp only [List.all_cons, Bool.and_eq_true, decide_eq_true_eq] at h
    rw [Op.lookupswitch.offset_cons]
    split
    · exact h.1
    · exact ih h.2 h2
theorem x_lookup {S : kH} {j : kM} {pc : Nat} {lv : List (Option Value)} {st : List Value} {σ : kS} {r : Option Value} {τ : kS} {x : Int32} {dflt : Int} {ps : Array (Int × Int)} {len : Nat} (d : decode j.2.1 pc = .ok (.lookupswitch dflt ps, len)) (hp : (ps.toList.zip (ps.toList.drop 1)).all (fun (a, next) => a.1 < next.1) = true) (hpos : (ps.toList.all fun o => decide (0 ≤ (pc : Int) + o.2)) = true) (h0 : 0 ≤ (pc : Int) + dflt)
    (ki : k_lk pc x (fun t => Ex S j t lv st σ r τ) dflt ps.toList) : Ex S j pc lv (.int x :: st) σ r τ := by
  intro p l e s m args below meth c D cA ad H locs ls E hP hD hS hl
  have h1 := k_lk_pos (x := x.toInt) ps.toList hpos h0
  exact lv_lookup E.1 E.2.1 d hp rfl (tgt := ((pc : Int) + Op.lookupswitch.offset ps.toList dflt x.toInt).toNat) (by omega) (k_lk_at ps.toList ki p l e s m args below meth c D cA ad H locs ls E hP hD hS hl)
