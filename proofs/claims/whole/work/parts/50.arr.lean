/-! the arrays' classes -/
theorem RA_1 {U : State} {c c' : ClassId} {ty : FieldType} (h : va_RA U c ty) (h' : va_RA U c' ty) : c = c' := by
  cases ty with
  | object C =>
    obtain ⟨-, -, -, -, -, a⟩ := h
    obtain ⟨-, -, -, -, -, b⟩ := h'
    exact Option.some.inj (a.symm.trans b)
  | _ =>
    have a : U.vm.findClass _ = some c := h
    have b : U.vm.findClass _ = some c' := h'
    exact Option.some.inj (a.symm.trans b)
theorem ar_p {args : Array Value} {s : State} {ty : FieldType} (h : (Cond.arrayClass ty).before args s = true) (hp : ty = .int ∨ ty = .long ∨ ty = .boolean) : ∃ cA, ArrOfT s cA ty ∧ va_RA s cA ty := by
  obtain ⟨cA, kA, comp, h1, h2, h3⟩ := Cond.arrayClass_spec h
  refine ⟨cA, fun n z => ⟨fun k h => (by cases h), kA, h2, comp, h3⟩, ?_⟩
  rcases hp with rfl | rfl | rfl <;> exact h1
theorem ar_w1 : Cond.arrayClass .int ∈ lw_tbl := by decide +kernel
theorem ar_w2 : Cond.arrayClass .long ∈ lw_tbl := by decide +kernel
theorem ar_w3 : Cond.arrayClass .boolean ∈ lw_tbl := by decide +kernel
theorem ar_w4 : Cond.arrayOver (.object RX7) ∈ lw_tbl := by decide +kernel
theorem ar_w5 : Cond.arrayOver (.object RX4) ∈ lw_tbl := by decide +kernel
