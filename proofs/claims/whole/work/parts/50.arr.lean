/-! the arrays' classes -/
theorem RA_1 {U : State} {c c' : ClassId} {ty : FieldType} (h : va_RA U c ty) (h' : va_RA U c' ty) : c = c' := by
  cases ty with
  | object C =>
    obtain ⟨-, -, -, -, -, a⟩ := h
    obtain ⟨-, -, -, -, -, b⟩ := h'
    exact Option.some.inj (a.symm.trans b)
  | _ =>
    have a : U.vm.findClass _ = some c := h
    have b : U.vm.findClass _ = some c' := h'
    exact Option.some.inj (a.symm.trans b)
theorem ar_p {args : Array Value} {s : State} {ty : FieldType} (h : (Cond.arrayClass ty).before args s = true) (hp : ty = .int ∨ ty = .long ∨ ty = .boolean) : ∃ cA, ArrOfT s cA ty ∧ va_RA s cA ty := by
  obtain ⟨cA, kA, comp, h1, h2, h3⟩ := Cond.arrayClass_spec h
  refine ⟨cA, fun n z => ⟨fun k h => (by cases h), kA, h2, comp, h3⟩, ?_⟩
  rcases hp with rfl | rfl | rfl <;> exact h1
theorem ar_w1 : Cond.arrayClass .int ∈ lw_tbl := by decide +kernel
theorem ar_w2 : Cond.arrayClass .long ∈ lw_tbl := by decide +kernel
theorem ar_w3 : Cond.arrayClass .boolean ∈ lw_tbl := by decide +kernel
theorem ar_w4 : Cond.arrayOver (.object RX7) ∈ lw_tbl := by decide +kernel
theorem ar_w5 : Cond.arrayOver (.object RX4) ∈ lw_tbl := by decide +kernel
theorem ar_o {args : Array Value} {s : State} {C : String} (h : (Cond.arrayOver (.object C)).before args s = true) : ∃ cA, ArrOfT s cA (.object C) ∧ va_RA s cA (.object C) := by
  obtain ⟨comp, cA, kA, h1, h2, h3, h4, h5⟩ := Cond.arrayOver_spec h
  exact ⟨cA, fun n z => ⟨fun k h => (by cases h), kA, h3, comp, h4⟩, kA, comp, h3, h4, h1, h5⟩
/-- all five, at the law's entry -/
theorem ar_all {args : Array Value} {s : State} (h : ∀ w ∈ lw_tbl, w.before args s = true) : ∃ cA : Nat → ClassId, ∀ (k : Nat) (q : ClassId × FieldType), (k_ty cA)[k]? = some q → ArrOfT s q.1 q.2 ∧ va_RA s q.1 q.2 := by
  obtain ⟨c1, a1⟩ := ar_p (h _ ar_w1) (Or.inl rfl)
  obtain ⟨c2, a2⟩ := ar_p (h _ ar_w2) (Or.inr (Or.inl rfl))
  obtain ⟨c3, a3⟩ := ar_p (h _ ar_w3) (Or.inr (Or.inr rfl))
  obtain ⟨c4, a4⟩ := ar_o (h _ ar_w4)
  obtain ⟨c5, a5⟩ := ar_o (h _ ar_w5)
  refine ⟨fun i => if i = 1 then c1 else if i = 2 then c2 else if i = 3 then c3 else if i = 4 then c4 else c5, fun k q hq => ?_⟩
  rcases k with _ | _ | _ | _ | _ | k
  · simp [k_ty] at hq; subst hq; exact a1
  · simp [k_ty] at hq; subst hq; exact a2
  · simp [k_ty] at hq; subst hq; exact a3
  · simp [k_ty] at hq; subst hq; exact a4
  · simp [k_ty] at hq; subst hq; exact a5
  · simp [k_ty] at hq
