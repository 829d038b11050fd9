/-! words of the choir (its constructor: 56), a sheet -/
theorem wn_X1 : Cond.methodLink RX1 3 Lib.objectInit ∈ k_ws := by decide +kernel
theorem wu_X1 : ∀ w ∈ u_ws RX1 TX1 2, w ∈ k_wi yX1_init cX1_init 1 := by decide +kernel
theorem wf_X1_0 : Cond.fieldLink RX1 9 "MissingNote$Choir" "song" "[I" ∈ k_ws := by decide +kernel
theorem wf_X1_1 : Cond.fieldLink RX1 18 "MissingNote$Choir" "chords" "LMissingNote$Chords;" ∈ k_ws := by decide +kernel
theorem wn_X4 : Cond.methodLink RX4 3 Lib.objectInit ∈ k_ws := by decide +kernel
theorem wu_X4 : ∀ w ∈ u_ws RX4 TX4 3, w ∈ k_wi yX4_init cX4_init 1 := by decide +kernel
theorem wf_X4_0 : Cond.fieldLink RX4 11 "MissingNote$Sheet" "lane" "I" ∈ k_ws := by decide +kernel
theorem wf_X4_2 : Cond.fieldLink RX4 15 "MissingNote$Sheet" "items" "[J" ∈ k_ws := by decide +kernel
theorem wo_7 : Cond.arrayClass .long ∈ k_ws := by decide +kernel
def at_Sheet (D : va_G) (A : Nat → Prop) (cA : Nat → ClassId) (h0 : Nat) (U : State) : Prop := ∃ q1, va_P D vwCl [(h0, .inr (4, [.int (-1), .int 0, .ref q1])), (q1, .inl (cA 2, 24, .inr (.inl (fun _ => 0))))] U.heap ∧ va_D A [(h0, .inr (4, [.int (-1), .int 0, .ref q1])), (q1, .inl (cA 2, 24, .inr (.inl (fun _ => 0))))]
set_option maxHeartbeats 4000000 in
set_option maxRecDepth 100000 in
theorem c_Sheet (l : Launch) (D : va_G) (cA : Nat → ClassId) (h0 sz : Nat) : Met l yX4_init (k_wi yX4_init cX4_init 1) ({ frames := 1, cells := 1, slots := 24, locals := 30 }) (va_Pc [.ref h0] (fun U => U.heap.size = sz ∧ va_P D vwCl [(h0, .inr (4, [.int 0, .int 0, .null]))] U.heap ∧ va_K D vwCl (k_ty cA) U ∧ va_D (fun _ => True) [(h0, .inr (4, [.int 0, .int 0, .null]))])) (fun _ st oc t => (oc = .returned none ∧ at_Sheet D (va_A [(h0, .inr (4, [.int 0, .int 0, .null]))] sz) cA h0 t) ∧ va_F (va_A [(h0, .inr (4, [.int 0, .int 0, .null]))] sz) st t) 1 24 (va_A [(h0, .inr (4, [.int 0, .int 0, .null]))] sz) := by
  refine Met.ofW (cc := cX4_init) (maxL := 1) (ret := none) (by decide) rfl ?_
  intro p e s m args below meth c s₁ B hml hv
  obtain ⟨rfl, hsz, hP, hK, hD0⟩ := hv
  have hx := B.exec
  have hb := B.bytes
  have hr := B.returns
  have hts := atoms_spec (ws := k_wi yX4_init cX4_init 1) B.pre
  have hown : s.vm.findClass RX4 = some m.cls := findClass_of_methodNamed B.named
  have hin : meth.name = "<init>" := (name_of_methodNamed B.named B.method).1
  subst hsz
  have hD := hD0.self (sz := s.heap.size)
  generalize hAe : va_A [(h0, .inr (4, [.int 0, .int 0, .null]))] s.heap.size = A at hD ⊢
  have hA : ∀ q : Nat, s.heap.size ≤ q → A q := fun q h => by rw [← hAe]; exact Or.inr h
  have hS : va_S A s.heap s.heap [] := va_S.rf
  have hl := lv_entry ([.ref h0]) (n := 1) (Nat.le_of_ble_eq_true rfl)
  rw [lg_entry_eq]
  generalize (lg_sl ([.ref h0]) ++ List.replicate (1 - (lg_sl ([.ref h0])).length) Slot.unset).toArray = ls at hl ⊢
  have hl : lv_has ls 1 [(0, .ref h0)] := hl
  refine lv_aload_n hx hb (show decode cX4_init 0 = .ok (.aload_n 0, 1) by decide +kernel) rfl (lv_at hl 0 rfl) ?_
  refine W.objInit hx hb hown (hts _ (List.mem_cons_of_mem _ wn_X4)) (hts _ (List.mem_cons_of_mem _ wo_1)) (hts _ (List.mem_cons_of_mem _ wo_2)) rfl (by rw [hml]; exact hl.1) rfl (show decode cX4_init 1 = .ok (.invokespecial 3, 3) by decide +kernel) (Nat.le_of_ble_eq_true rfl) (Nat.le_of_ble_eq_true rfl) ?_
  refine W.eq (g2 := F0 m 4 ls []) rfl ?_
  refine lv_aload_n hx hb (show decode cX4_init 4 = .ok (.aload_n 0, 1) by decide +kernel) rfl (lv_at hl 0 rfl) ?_
  refine lv_iconst (v := -1) hx hb (show decode cX4_init 5 = .ok (.iconst (-1), 1) by decide +kernel) rfl ?_
  refine va_put (ci := 4) (v := .int (-1)) (ty := .int) (C := RX4) (T := TX4) (N := 3) hx hb hts wu_X4 tyX4 tyX4_ok nmX4 hown hK hP hD hS 0 rfl rfl 0 (by decide) (hts _ (List.mem_cons_of_mem _ wf_X4_0)) (fun _ h9 => h9) rfl (by decide +kernel) rfl rfl (Nat.le_of_ble_eq_true rfl) (show decode cX4_init 6 = .ok (.putfield 11, 3) by decide +kernel) (fun H locs hP hD hS => ?_)
  refine lv_aload_n hx hb (show decode cX4_init 9 = .ok (.aload_n 0, 1) by decide +kernel) rfl (lv_at hl 0 rfl) ?_
  refine lv_bipush (v := 24) hx hb (show decode cX4_init 10 = .ok (.bipush 24, 2) by decide +kernel) rfl ?_
  refine va_newa (atype := .long) (ty := .long) (N' := 24) (a0 := (24, .inr (.inl (fun _ => 0)))) hx hb (hts _ (List.mem_cons_of_mem _ wo_7)) rfl hK hP hD hS hA (fun _ => rfl) (by decide) (by decide +kernel) (by decide) (by decide) (by decide) (show decode cX4_init 12 = .ok (.newarray .long, 2) by decide +kernel) (fun q1 c1 H hK1 hP hD hS => ?_)
  have hc1 : c1 = cA 2 := RA_1 (hK1.2 5 (c1, .long) rfl).2 (hK.2 1 (cA 2, .long) rfl).2
  subst hc1
  refine va_putF (ci := 4) (v := .ref q1) (ty := .array .long) (C := RX4) (T := TX4) (N := 3) hx hb hts wu_X4 tyX4 tyX4_ok nmX4 hown hK hP hD hS 0 rfl rfl 2 (by decide) (hts _ (List.mem_cons_of_mem _ wf_X4_2)) (fun _ h9 => h9) rfl hin rfl (by decide +kernel) rfl rfl (Nat.le_of_ble_eq_true rfl) (show decode cX4_init 14 = .ok (.putfield 15, 3) by decide +kernel) (fun H locs hP hD hS => ?_)
  exact W.vret hx hb hr (fun t ht hW => ⟨⟨rfl, q1, by rw [ht]; exact hP, hD⟩, hS.F ht⟩) hS.2.2 (show decode cX4_init 17 = .ok (.return_, 1) by decide +kernel)
