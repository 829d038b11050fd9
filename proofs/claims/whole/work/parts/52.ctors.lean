/-! constructors that only make arrays (wip/gen/ctor.py) -/
theorem wn_X0 : Cond.methodLink RX0 3 Lib.objectInit ∈ k_ws := by decide +kernel
theorem wu_X0 : ∀ w ∈ u_ws RX0 TX0 5, w ∈ k_wi yX0_init cX0_init 1 := by decide +kernel
theorem wf_X0_2 : Cond.fieldLink RX0 9 "MissingNote$Acts" "act" "[I" ∈ k_ws := by decide +kernel
theorem wf_X0_3 : Cond.fieldLink RX0 15 "MissingNote$Acts" "of" "[I" ∈ k_ws := by decide +kernel
theorem wf_X0_4 : Cond.fieldLink RX0 18 "MissingNote$Acts" "was" "[I" ∈ k_ws := by decide +kernel
def at_Acts (D : va_G) (A : Nat → Prop) (cA : Nat → ClassId) (h0 : Nat) (U : State) : Prop := ∃ q1 q2 q3, va_P D vwCl [(h0, .inr (0, [.int 0, .int 0, .ref q1, .ref q2, .ref q3])), (q1, .inl (cA 1, 24, .inl (fun _ => 0))), (q2, .inl (cA 1, 24, .inl (fun _ => 0))), (q3, .inl (cA 1, 24, .inl (fun _ => 0)))] U.heap ∧ va_D A [(h0, .inr (0, [.int 0, .int 0, .ref q1, .ref q2, .ref q3])), (q1, .inl (cA 1, 24, .inl (fun _ => 0))), (q2, .inl (cA 1, 24, .inl (fun _ => 0))), (q3, .inl (cA 1, 24, .inl (fun _ => 0)))]
set_option maxHeartbeats 4000000 in
set_option maxRecDepth 100000 in
theorem c_Acts (l : Launch) (D : va_G) (cA : Nat → ClassId) (h0 sz : Nat) : Met l yX0_init (k_wi yX0_init cX0_init 1) ({ frames := 1, cells := 3, slots := 72, locals := 30 }) (va_Pc [.ref h0] (fun U => U.heap.size = sz ∧ va_P D vwCl [(h0, .inr (0, [.int 0, .int 0, .null, .null, .null]))] U.heap ∧ va_K D vwCl (k_ty cA) U ∧ va_D (fun _ => True) [(h0, .inr (0, [.int 0, .int 0, .null, .null, .null]))])) (fun _ st oc t => (oc = .returned none ∧ at_Acts D (va_A [(h0, .inr (0, [.int 0, .int 0, .null, .null, .null]))] sz) cA h0 t) ∧ va_F (va_A [(h0, .inr (0, [.int 0, .int 0, .null, .null, .null]))] sz) st t) 3 72 (va_A [(h0, .inr (0, [.int 0, .int 0, .null, .null, .null]))] sz) := by
  refine Met.ofW (cc := cX0_init) (maxL := 1) (ret := none) (by decide) rfl ?_
  intro p e s m args below meth c s₁ B hml hv
  obtain ⟨rfl, hsz, hP, hK, hD0⟩ := hv
  have hx := B.exec
  have hb := B.bytes
  have hr := B.returns
  have hts := atoms_spec (ws := k_wi yX0_init cX0_init 1) B.pre
  have hown : s.vm.findClass RX0 = some m.cls := findClass_of_methodNamed B.named
  have hin : meth.name = "<init>" := (name_of_methodNamed B.named B.method).1
  subst hsz
  have hD := hD0.self (sz := s.heap.size)
  generalize hAe : va_A [(h0, .inr (0, [.int 0, .int 0, .null, .null, .null]))] s.heap.size = A at hD ⊢
  have hA : ∀ q : Nat, s.heap.size ≤ q → A q := fun q h => by rw [← hAe]; exact Or.inr h
  have hS : va_S A s.heap s.heap [] := va_S.rf
  have hl := lv_entry ([.ref h0]) (n := 1) (Nat.le_of_ble_eq_true rfl)
  rw [lg_entry_eq]
  generalize (lg_sl ([.ref h0]) ++ List.replicate (1 - (lg_sl ([.ref h0])).length) Slot.unset).toArray = ls at hl ⊢
  have hl : lv_has ls 1 [(0, .ref h0)] := hl
  refine lv_aload_n hx hb (show decode cX0_init 0 = .ok (.aload_n 0, 1) by decide +kernel) rfl (lv_at hl 0 rfl) ?_
  refine W.objInit hx hb hown (hts _ (List.mem_cons_of_mem _ wn_X0)) (hts _ (List.mem_cons_of_mem _ wo_1)) (hts _ (List.mem_cons_of_mem _ wo_2)) rfl (by rw [hml]; exact hl.1) rfl (show decode cX0_init 1 = .ok (.invokespecial 3, 3) by decide +kernel) (Nat.le_of_ble_eq_true rfl) (Nat.le_of_ble_eq_true rfl) ?_
  refine W.eq (g2 := F0 m 4 ls []) rfl ?_
  refine lv_aload_n hx hb (show decode cX0_init 4 = .ok (.aload_n 0, 1) by decide +kernel) rfl (lv_at hl 0 rfl) ?_
  refine lv_bipush (v := 24) hx hb (show decode cX0_init 5 = .ok (.bipush 24, 2) by decide +kernel) rfl ?_
  refine va_newa (atype := .int) (ty := .int) (N' := 24) (a0 := (24, .inl (fun _ => 0))) hx hb (hts _ (List.mem_cons_of_mem _ wo_4)) rfl hK hP hD hS hA (fun _ => rfl) (by decide) (by decide +kernel) (by decide) (by decide) (by decide) (show decode cX0_init 7 = .ok (.newarray .int, 2) by decide +kernel) (fun q1 c1 H hK1 hP hD hS => ?_)
  have hc1 : c1 = cA 1 := RA_1 (hK1.2 5 (c1, .int) rfl).2 (hK.2 0 (cA 1, .int) rfl).2
  subst hc1
  refine va_putF (ci := 0) (v := .ref q1) (ty := .array .int) (C := RX0) (T := TX0) (N := 5) hx hb hts wu_X0 tyX0 tyX0_ok nmX0 hown hK hP hD hS 0 rfl rfl 2 (by decide) (hts _ (List.mem_cons_of_mem _ wf_X0_2)) (fun _ h9 => h9) rfl hin rfl (by decide +kernel) rfl rfl (Nat.le_of_ble_eq_true rfl) (show decode cX0_init 9 = .ok (.putfield 9, 3) by decide +kernel) (fun H locs hP hD hS => ?_)
  refine lv_aload_n hx hb (show decode cX0_init 12 = .ok (.aload_n 0, 1) by decide +kernel) rfl (lv_at hl 0 rfl) ?_
  refine lv_bipush (v := 24) hx hb (show decode cX0_init 13 = .ok (.bipush 24, 2) by decide +kernel) rfl ?_
  refine va_newa (atype := .int) (ty := .int) (N' := 24) (a0 := (24, .inl (fun _ => 0))) hx hb (hts _ (List.mem_cons_of_mem _ wo_4)) rfl hK hP hD hS hA (fun _ => rfl) (by decide) (by decide +kernel) (by decide) (by decide) (by decide) (show decode cX0_init 15 = .ok (.newarray .int, 2) by decide +kernel) (fun q2 c2 H hK1 hP hD hS => ?_)
  have hc2 : c2 = cA 1 := RA_1 (hK1.2 5 (c2, .int) rfl).2 (hK.2 0 (cA 1, .int) rfl).2
  subst hc2
  refine va_putF (ci := 0) (v := .ref q2) (ty := .array .int) (C := RX0) (T := TX0) (N := 5) hx hb hts wu_X0 tyX0 tyX0_ok nmX0 hown hK hP hD hS 0 rfl rfl 3 (by decide) (hts _ (List.mem_cons_of_mem _ wf_X0_3)) (fun _ h9 => h9) rfl hin rfl (by decide +kernel) rfl rfl (Nat.le_of_ble_eq_true rfl) (show decode cX0_init 17 = .ok (.putfield 15, 3) by decide +kernel) (fun H locs hP hD hS => ?_)
  refine lv_aload_n hx hb (show decode cX0_init 20 = .ok (.aload_n 0, 1) by decide +kernel) rfl (lv_at hl 0 rfl) ?_
  refine lv_bipush (v := 24) hx hb (show decode cX0_init 21 = .ok (.bipush 24, 2) by decide +kernel) rfl ?_
  refine va_newa (atype := .int) (ty := .int) (N' := 24) (a0 := (24, .inl (fun _ => 0))) hx hb (hts _ (List.mem_cons_of_mem _ wo_4)) rfl hK hP hD hS hA (fun _ => rfl) (by decide) (by decide +kernel) (by decide) (by decide) (by decide) (show decode cX0_init 23 = .ok (.newarray .int, 2) by decide +kernel) (fun q3 c3 H hK1 hP hD hS => ?_)
  have hc3 : c3 = cA 1 := RA_1 (hK1.2 5 (c3, .int) rfl).2 (hK.2 0 (cA 1, .int) rfl).2
  subst hc3
  refine va_putF (ci := 0) (v := .ref q3) (ty := .array .int) (C := RX0) (T := TX0) (N := 5) hx hb hts wu_X0 tyX0 tyX0_ok nmX0 hown hK hP hD hS 0 rfl rfl 4 (by decide) (hts _ (List.mem_cons_of_mem _ wf_X0_4)) (fun _ h9 => h9) rfl hin rfl (by decide +kernel) rfl rfl (Nat.le_of_ble_eq_true rfl) (show decode cX0_init 25 = .ok (.putfield 18, 3) by decide +kernel) (fun H locs hP hD hS => ?_)
  exact W.vret hx hb hr (fun t ht hW => ⟨⟨rfl, q1, q2, q3, by rw [ht]; exact hP, hD⟩, hS.F ht⟩) hS.2.2 (show decode cX0_init 28 = .ok (.return_, 1) by decide +kernel)
theorem wn_X2 : Cond.methodLink RX2 3 Lib.objectInit ∈ k_ws := by decide +kernel
theorem wu_X2 : ∀ w ∈ u_ws RX2 TX2 2, w ∈ k_wi yX2_init cX2_init 1 := by decide +kernel
theorem wf_X2_0 : Cond.fieldLink RX2 9 "MissingNote$Chords" "notes" "[I" ∈ k_ws := by decide +kernel
theorem wf_X2_1 : Cond.fieldLink RX2 15 "MissingNote$Chords" "best" "[I" ∈ k_ws := by decide +kernel
def at_Chords (D : va_G) (A : Nat → Prop) (cA : Nat → ClassId) (h0 : Nat) (U : State) : Prop := ∃ q1 q2, va_P D vwCl [(h0, .inr (2, [.ref q1, .ref q2])), (q1, .inl (cA 1, 48, .inl (fun _ => 0))), (q2, .inl (cA 1, 4096, .inl (fun _ => 0)))] U.heap ∧ va_D A [(h0, .inr (2, [.ref q1, .ref q2])), (q1, .inl (cA 1, 48, .inl (fun _ => 0))), (q2, .inl (cA 1, 4096, .inl (fun _ => 0)))]
set_option maxHeartbeats 4000000 in
set_option maxRecDepth 100000 in
theorem c_Chords (l : Launch) (D : va_G) (cA : Nat → ClassId) (h0 sz : Nat) : Met l yX2_init (k_wi yX2_init cX2_init 1) ({ frames := 1, cells := 2, slots := 4144, locals := 30 }) (va_Pc [.ref h0] (fun U => U.heap.size = sz ∧ va_P D vwCl [(h0, .inr (2, [.null, .null]))] U.heap ∧ va_K D vwCl (k_ty cA) U ∧ va_D (fun _ => True) [(h0, .inr (2, [.null, .null]))])) (fun _ st oc t => (oc = .returned none ∧ at_Chords D (va_A [(h0, .inr (2, [.null, .null]))] sz) cA h0 t) ∧ va_F (va_A [(h0, .inr (2, [.null, .null]))] sz) st t) 2 4144 (va_A [(h0, .inr (2, [.null, .null]))] sz) := by
  refine Met.ofW (cc := cX2_init) (maxL := 1) (ret := none) (by decide) rfl ?_
  intro p e s m args below meth c s₁ B hml hv
  obtain ⟨rfl, hsz, hP, hK, hD0⟩ := hv
  have hx := B.exec
  have hb := B.bytes
  have hr := B.returns
  have hts := atoms_spec (ws := k_wi yX2_init cX2_init 1) B.pre
  have hown : s.vm.findClass RX2 = some m.cls := findClass_of_methodNamed B.named
  have hin : meth.name = "<init>" := (name_of_methodNamed B.named B.method).1
  subst hsz
  have hD := hD0.self (sz := s.heap.size)
  generalize hAe : va_A [(h0, .inr (2, [.null, .null]))] s.heap.size = A at hD ⊢
  have hA : ∀ q : Nat, s.heap.size ≤ q → A q := fun q h => by rw [← hAe]; exact Or.inr h
  have hS : va_S A s.heap s.heap [] := va_S.rf
  have hl := lv_entry ([.ref h0]) (n := 1) (Nat.le_of_ble_eq_true rfl)
  rw [lg_entry_eq]
  generalize (lg_sl ([.ref h0]) ++ List.replicate (1 - (lg_sl ([.ref h0])).length) Slot.unset).toArray = ls at hl ⊢
  have hl : lv_has ls 1 [(0, .ref h0)] := hl
  refine lv_aload_n hx hb (show decode cX2_init 0 = .ok (.aload_n 0, 1) by decide +kernel) rfl (lv_at hl 0 rfl) ?_
  refine W.objInit hx hb hown (hts _ (List.mem_cons_of_mem _ wn_X2)) (hts _ (List.mem_cons_of_mem _ wo_1)) (hts _ (List.mem_cons_of_mem _ wo_2)) rfl (by rw [hml]; exact hl.1) rfl (show decode cX2_init 1 = .ok (.invokespecial 3, 3) by decide +kernel) (Nat.le_of_ble_eq_true rfl) (Nat.le_of_ble_eq_true rfl) ?_
  refine W.eq (g2 := F0 m 4 ls []) rfl ?_
  refine lv_aload_n hx hb (show decode cX2_init 4 = .ok (.aload_n 0, 1) by decide +kernel) rfl (lv_at hl 0 rfl) ?_
  refine lv_bipush (v := 48) hx hb (show decode cX2_init 5 = .ok (.bipush 48, 2) by decide +kernel) rfl ?_
  refine va_newa (atype := .int) (ty := .int) (N' := 48) (a0 := (48, .inl (fun _ => 0))) hx hb (hts _ (List.mem_cons_of_mem _ wo_4)) rfl hK hP hD hS hA (fun _ => rfl) (by decide) (by decide +kernel) (by decide) (by decide) (by decide) (show decode cX2_init 7 = .ok (.newarray .int, 2) by decide +kernel) (fun q1 c1 H hK1 hP hD hS => ?_)
  have hc1 : c1 = cA 1 := RA_1 (hK1.2 5 (c1, .int) rfl).2 (hK.2 0 (cA 1, .int) rfl).2
  subst hc1
  refine va_putF (ci := 2) (v := .ref q1) (ty := .array .int) (C := RX2) (T := TX2) (N := 2) hx hb hts wu_X2 tyX2 tyX2_ok nmX2 hown hK hP hD hS 0 rfl rfl 0 (by decide) (hts _ (List.mem_cons_of_mem _ wf_X2_0)) (fun _ h9 => h9) rfl hin rfl (by decide +kernel) rfl rfl (Nat.le_of_ble_eq_true rfl) (show decode cX2_init 9 = .ok (.putfield 9, 3) by decide +kernel) (fun H locs hP hD hS => ?_)
  refine lv_aload_n hx hb (show decode cX2_init 12 = .ok (.aload_n 0, 1) by decide +kernel) rfl (lv_at hl 0 rfl) ?_
  refine lv_sipush (v := 4096) hx hb (show decode cX2_init 13 = .ok (.sipush 4096, 3) by decide +kernel) rfl ?_
  refine va_newa (atype := .int) (ty := .int) (N' := 4096) (a0 := (4096, .inl (fun _ => 0))) hx hb (hts _ (List.mem_cons_of_mem _ wo_4)) rfl hK hP hD hS hA (fun _ => rfl) (by decide) (by decide +kernel) (by decide) (by decide) (by decide) (show decode cX2_init 16 = .ok (.newarray .int, 2) by decide +kernel) (fun q2 c2 H hK1 hP hD hS => ?_)
  have hc2 : c2 = cA 1 := RA_1 (hK1.2 5 (c2, .int) rfl).2 (hK.2 0 (cA 1, .int) rfl).2
  subst hc2
  refine va_putF (ci := 2) (v := .ref q2) (ty := .array .int) (C := RX2) (T := TX2) (N := 2) hx hb hts wu_X2 tyX2 tyX2_ok nmX2 hown hK hP hD hS 0 rfl rfl 1 (by decide) (hts _ (List.mem_cons_of_mem _ wf_X2_1)) (fun _ h9 => h9) rfl hin rfl (by decide +kernel) rfl rfl (Nat.le_of_ble_eq_true rfl) (show decode cX2_init 18 = .ok (.putfield 15, 3) by decide +kernel) (fun H locs hP hD hS => ?_)
  exact W.vret hx hb hr (fun t ht hW => ⟨⟨rfl, q1, q2, by rw [ht]; exact hP, hD⟩, hS.F ht⟩) hS.2.2 (show decode cX2_init 21 = .ok (.return_, 1) by decide +kernel)
theorem wn_X3 : Cond.methodLink RX3 3 Lib.objectInit ∈ k_ws := by decide +kernel
theorem wu_X3 : ∀ w ∈ u_ws RX3 TX3 5, w ∈ k_wi yX3_init cX3_init 1 := by decide +kernel
theorem wf_X3_2 : Cond.fieldLink RX3 9 "MissingNote$Ear" "who" "[I" ∈ k_ws := by decide +kernel
theorem wf_X3_3 : Cond.fieldLink RX3 15 "MissingNote$Ear" "sang" "[I" ∈ k_ws := by decide +kernel
theorem wf_X3_4 : Cond.fieldLink RX3 18 "MissingNote$Ear" "parts" "[I" ∈ k_ws := by decide +kernel
def at_Ear (D : va_G) (A : Nat → Prop) (cA : Nat → ClassId) (h0 : Nat) (U : State) : Prop := ∃ q1 q2 q3, va_P D vwCl [(h0, .inr (3, [.int 0, .int 0, .ref q1, .ref q2, .ref q3])), (q1, .inl (cA 1, 6, .inl (fun _ => 0))), (q2, .inl (cA 1, 6, .inl (fun _ => 0))), (q3, .inl (cA 1, 65, .inl (fun _ => 0)))] U.heap ∧ va_D A [(h0, .inr (3, [.int 0, .int 0, .ref q1, .ref q2, .ref q3])), (q1, .inl (cA 1, 6, .inl (fun _ => 0))), (q2, .inl (cA 1, 6, .inl (fun _ => 0))), (q3, .inl (cA 1, 65, .inl (fun _ => 0)))]
set_option maxHeartbeats 4000000 in
set_option maxRecDepth 100000 in
theorem c_Ear (l : Launch) (D : va_G) (cA : Nat → ClassId) (h0 sz : Nat) : Met l yX3_init (k_wi yX3_init cX3_init 1) ({ frames := 1, cells := 3, slots := 77, locals := 30 }) (va_Pc [.ref h0] (fun U => U.heap.size = sz ∧ va_P D vwCl [(h0, .inr (3, [.int 0, .int 0, .null, .null, .null]))] U.heap ∧ va_K D vwCl (k_ty cA) U ∧ va_D (fun _ => True) [(h0, .inr (3, [.int 0, .int 0, .null, .null, .null]))])) (fun _ st oc t => (oc = .returned none ∧ at_Ear D (va_A [(h0, .inr (3, [.int 0, .int 0, .null, .null, .null]))] sz) cA h0 t) ∧ va_F (va_A [(h0, .inr (3, [.int 0, .int 0, .null, .null, .null]))] sz) st t) 3 77 (va_A [(h0, .inr (3, [.int 0, .int 0, .null, .null, .null]))] sz) := by
  refine Met.ofW (cc := cX3_init) (maxL := 1) (ret := none) (by decide) rfl ?_
  intro p e s m args below meth c s₁ B hml hv
  obtain ⟨rfl, hsz, hP, hK, hD0⟩ := hv
  have hx := B.exec
  have hb := B.bytes
  have hr := B.returns
  have hts := atoms_spec (ws := k_wi yX3_init cX3_init 1) B.pre
  have hown : s.vm.findClass RX3 = some m.cls := findClass_of_methodNamed B.named
  have hin : meth.name = "<init>" := (name_of_methodNamed B.named B.method).1
  subst hsz
  have hD := hD0.self (sz := s.heap.size)
  generalize hAe : va_A [(h0, .inr (3, [.int 0, .int 0, .null, .null, .null]))] s.heap.size = A at hD ⊢
  have hA : ∀ q : Nat, s.heap.size ≤ q → A q := fun q h => by rw [← hAe]; exact Or.inr h
  have hS : va_S A s.heap s.heap [] := va_S.rf
  have hl := lv_entry ([.ref h0]) (n := 1) (Nat.le_of_ble_eq_true rfl)
  rw [lg_entry_eq]
  generalize (lg_sl ([.ref h0]) ++ List.replicate (1 - (lg_sl ([.ref h0])).length) Slot.unset).toArray = ls at hl ⊢
  have hl : lv_has ls 1 [(0, .ref h0)] := hl
  refine lv_aload_n hx hb (show decode cX3_init 0 = .ok (.aload_n 0, 1) by decide +kernel) rfl (lv_at hl 0 rfl) ?_
  refine W.objInit hx hb hown (hts _ (List.mem_cons_of_mem _ wn_X3)) (hts _ (List.mem_cons_of_mem _ wo_1)) (hts _ (List.mem_cons_of_mem _ wo_2)) rfl (by rw [hml]; exact hl.1) rfl (show decode cX3_init 1 = .ok (.invokespecial 3, 3) by decide +kernel) (Nat.le_of_ble_eq_true rfl) (Nat.le_of_ble_eq_true rfl) ?_
  refine W.eq (g2 := F0 m 4 ls []) rfl ?_
  refine lv_aload_n hx hb (show decode cX3_init 4 = .ok (.aload_n 0, 1) by decide +kernel) rfl (lv_at hl 0 rfl) ?_
  refine lv_bipush (v := 6) hx hb (show decode cX3_init 5 = .ok (.bipush 6, 2) by decide +kernel) rfl ?_
  refine va_newa (atype := .int) (ty := .int) (N' := 6) (a0 := (6, .inl (fun _ => 0))) hx hb (hts _ (List.mem_cons_of_mem _ wo_4)) rfl hK hP hD hS hA (fun _ => rfl) (by decide) (by decide +kernel) (by decide) (by decide) (by decide) (show decode cX3_init 7 = .ok (.newarray .int, 2) by decide +kernel) (fun q1 c1 H hK1 hP hD hS => ?_)
  have hc1 : c1 = cA 1 := RA_1 (hK1.2 5 (c1, .int) rfl).2 (hK.2 0 (cA 1, .int) rfl).2
  subst hc1
  refine va_putF (ci := 3) (v := .ref q1) (ty := .array .int) (C := RX3) (T := TX3) (N := 5) hx hb hts wu_X3 tyX3 tyX3_ok nmX3 hown hK hP hD hS 0 rfl rfl 2 (by decide) (hts _ (List.mem_cons_of_mem _ wf_X3_2)) (fun _ h9 => h9) rfl hin rfl (by decide +kernel) rfl rfl (Nat.le_of_ble_eq_true rfl) (show decode cX3_init 9 = .ok (.putfield 9, 3) by decide +kernel) (fun H locs hP hD hS => ?_)
  refine lv_aload_n hx hb (show decode cX3_init 12 = .ok (.aload_n 0, 1) by decide +kernel) rfl (lv_at hl 0 rfl) ?_
  refine lv_bipush (v := 6) hx hb (show decode cX3_init 13 = .ok (.bipush 6, 2) by decide +kernel) rfl ?_
  refine va_newa (atype := .int) (ty := .int) (N' := 6) (a0 := (6, .inl (fun _ => 0))) hx hb (hts _ (List.mem_cons_of_mem _ wo_4)) rfl hK hP hD hS hA (fun _ => rfl) (by decide) (by decide +kernel) (by decide) (by decide) (by decide) (show decode cX3_init 15 = .ok (.newarray .int, 2) by decide +kernel) (fun q2 c2 H hK1 hP hD hS => ?_)
  have hc2 : c2 = cA 1 := RA_1 (hK1.2 5 (c2, .int) rfl).2 (hK.2 0 (cA 1, .int) rfl).2
  subst hc2
  refine va_putF (ci := 3) (v := .ref q2) (ty := .array .int) (C := RX3) (T := TX3) (N := 5) hx hb hts wu_X3 tyX3 tyX3_ok nmX3 hown hK hP hD hS 0 rfl rfl 3 (by decide) (hts _ (List.mem_cons_of_mem _ wf_X3_3)) (fun _ h9 => h9) rfl hin rfl (by decide +kernel) rfl rfl (Nat.le_of_ble_eq_true rfl) (show decode cX3_init 17 = .ok (.putfield 15, 3) by decide +kernel) (fun H locs hP hD hS => ?_)
  refine lv_aload_n hx hb (show decode cX3_init 20 = .ok (.aload_n 0, 1) by decide +kernel) rfl (lv_at hl 0 rfl) ?_
  refine lv_bipush (v := 65) hx hb (show decode cX3_init 21 = .ok (.bipush 65, 2) by decide +kernel) rfl ?_
  refine va_newa (atype := .int) (ty := .int) (N' := 65) (a0 := (65, .inl (fun _ => 0))) hx hb (hts _ (List.mem_cons_of_mem _ wo_4)) rfl hK hP hD hS hA (fun _ => rfl) (by decide) (by decide +kernel) (by decide) (by decide) (by decide) (show decode cX3_init 23 = .ok (.newarray .int, 2) by decide +kernel) (fun q3 c3 H hK1 hP hD hS => ?_)
  have hc3 : c3 = cA 1 := RA_1 (hK1.2 5 (c3, .int) rfl).2 (hK.2 0 (cA 1, .int) rfl).2
  subst hc3
  refine va_putF (ci := 3) (v := .ref q3) (ty := .array .int) (C := RX3) (T := TX3) (N := 5) hx hb hts wu_X3 tyX3 tyX3_ok nmX3 hown hK hP hD hS 0 rfl rfl 4 (by decide) (hts _ (List.mem_cons_of_mem _ wf_X3_4)) (fun _ h9 => h9) rfl hin rfl (by decide +kernel) rfl rfl (Nat.le_of_ble_eq_true rfl) (show decode cX3_init 25 = .ok (.putfield 18, 3) by decide +kernel) (fun H locs hP hD hS => ?_)
  exact W.vret hx hb hr (fun t ht hW => ⟨⟨rfl, q1, q2, q3, by rw [ht]; exact hP, hD⟩, hS.F ht⟩) hS.2.2 (show decode cX3_init 28 = .ok (.return_, 1) by decide +kernel)
theorem wn_X5 : Cond.methodLink RX5 3 Lib.objectInit ∈ k_ws := by decide +kernel
theorem wu_X5 : ∀ w ∈ u_ws RX5 TX5 6, w ∈ k_wi yX5_init cX5_init 1 := by decide +kernel
theorem wf_X5_0 : Cond.fieldLink RX5 9 "MissingNote$Stations" "worth" "[I" ∈ k_ws := by decide +kernel
theorem wf_X5_1 : Cond.fieldLink RX5 15 "MissingNote$Stations" "at" "[I" ∈ k_ws := by decide +kernel
theorem wf_X5_2 : Cond.fieldLink RX5 18 "MissingNote$Stations" "crowd" "[I" ∈ k_ws := by decide +kernel
theorem wf_X5_3 : Cond.fieldLink RX5 21 "MissingNote$Stations" "bestAt" "[I" ∈ k_ws := by decide +kernel
def at_Stations (D : va_G) (A : Nat → Prop) (cA : Nat → ClassId) (h0 : Nat) (U : State) : Prop := ∃ q1 q2 q3 q4, va_P D vwCl [(h0, .inr (5, [.ref q1, .ref q2, .ref q3, .ref q4, .int 0, .int 0])), (q1, .inl (cA 1, 160, .inl (fun _ => 0))), (q2, .inl (cA 1, 5, .inl (fun _ => 0))), (q3, .inl (cA 1, 6, .inl (fun _ => 0))), (q4, .inl (cA 1, 5, .inl (fun _ => 0)))] U.heap ∧ va_D A [(h0, .inr (5, [.ref q1, .ref q2, .ref q3, .ref q4, .int 0, .int 0])), (q1, .inl (cA 1, 160, .inl (fun _ => 0))), (q2, .inl (cA 1, 5, .inl (fun _ => 0))), (q3, .inl (cA 1, 6, .inl (fun _ => 0))), (q4, .inl (cA 1, 5, .inl (fun _ => 0)))]
set_option maxHeartbeats 4000000 in
set_option maxRecDepth 100000 in
theorem c_Stations (l : Launch) (D : va_G) (cA : Nat → ClassId) (h0 sz : Nat) : Met l yX5_init (k_wi yX5_init cX5_init 1) ({ frames := 1, cells := 4, slots := 176, locals := 30 }) (va_Pc [.ref h0] (fun U => U.heap.size = sz ∧ va_P D vwCl [(h0, .inr (5, [.null, .null, .null, .null, .int 0, .int 0]))] U.heap ∧ va_K D vwCl (k_ty cA) U ∧ va_D (fun _ => True) [(h0, .inr (5, [.null, .null, .null, .null, .int 0, .int 0]))])) (fun _ st oc t => (oc = .returned none ∧ at_Stations D (va_A [(h0, .inr (5, [.null, .null, .null, .null, .int 0, .int 0]))] sz) cA h0 t) ∧ va_F (va_A [(h0, .inr (5, [.null, .null, .null, .null, .int 0, .int 0]))] sz) st t) 4 176 (va_A [(h0, .inr (5, [.null, .null, .null, .null, .int 0, .int 0]))] sz) := by
  refine Met.ofW (cc := cX5_init) (maxL := 1) (ret := none) (by decide) rfl ?_
  intro p e s m args below meth c s₁ B hml hv
  obtain ⟨rfl, hsz, hP, hK, hD0⟩ := hv
  have hx := B.exec
  have hb := B.bytes
  have hr := B.returns
  have hts := atoms_spec (ws := k_wi yX5_init cX5_init 1) B.pre
  have hown : s.vm.findClass RX5 = some m.cls := findClass_of_methodNamed B.named
  have hin : meth.name = "<init>" := (name_of_methodNamed B.named B.method).1
  subst hsz
  have hD := hD0.self (sz := s.heap.size)
  generalize hAe : va_A [(h0, .inr (5, [.null, .null, .null, .null, .int 0, .int 0]))] s.heap.size = A at hD ⊢
  have hA : ∀ q : Nat, s.heap.size ≤ q → A q := fun q h => by rw [← hAe]; exact Or.inr h
  have hS : va_S A s.heap s.heap [] := va_S.rf
  have hl := lv_entry ([.ref h0]) (n := 1) (Nat.le_of_ble_eq_true rfl)
  rw [lg_entry_eq]
  generalize (lg_sl ([.ref h0]) ++ List.replicate (1 - (lg_sl ([.ref h0])).length) Slot.unset).toArray = ls at hl ⊢
  have hl : lv_has ls 1 [(0, .ref h0)] := hl
  refine lv_aload_n hx hb (show decode cX5_init 0 = .ok (.aload_n 0, 1) by decide +kernel) rfl (lv_at hl 0 rfl) ?_
  refine W.objInit hx hb hown (hts _ (List.mem_cons_of_mem _ wn_X5)) (hts _ (List.mem_cons_of_mem _ wo_1)) (hts _ (List.mem_cons_of_mem _ wo_2)) rfl (by rw [hml]; exact hl.1) rfl (show decode cX5_init 1 = .ok (.invokespecial 3, 3) by decide +kernel) (Nat.le_of_ble_eq_true rfl) (Nat.le_of_ble_eq_true rfl) ?_
  refine W.eq (g2 := F0 m 4 ls []) rfl ?_
  refine lv_aload_n hx hb (show decode cX5_init 4 = .ok (.aload_n 0, 1) by decide +kernel) rfl (lv_at hl 0 rfl) ?_
  refine lv_sipush (v := 160) hx hb (show decode cX5_init 5 = .ok (.sipush 160, 3) by decide +kernel) rfl ?_
  refine va_newa (atype := .int) (ty := .int) (N' := 160) (a0 := (160, .inl (fun _ => 0))) hx hb (hts _ (List.mem_cons_of_mem _ wo_4)) rfl hK hP hD hS hA (fun _ => rfl) (by decide) (by decide +kernel) (by decide) (by decide) (by decide) (show decode cX5_init 8 = .ok (.newarray .int, 2) by decide +kernel) (fun q1 c1 H hK1 hP hD hS => ?_)
  have hc1 : c1 = cA 1 := RA_1 (hK1.2 5 (c1, .int) rfl).2 (hK.2 0 (cA 1, .int) rfl).2
  subst hc1
  refine va_putF (ci := 5) (v := .ref q1) (ty := .array .int) (C := RX5) (T := TX5) (N := 6) hx hb hts wu_X5 tyX5 tyX5_ok nmX5 hown hK hP hD hS 0 rfl rfl 0 (by decide) (hts _ (List.mem_cons_of_mem _ wf_X5_0)) (fun _ h9 => h9) rfl hin rfl (by decide +kernel) rfl rfl (Nat.le_of_ble_eq_true rfl) (show decode cX5_init 10 = .ok (.putfield 9, 3) by decide +kernel) (fun H locs hP hD hS => ?_)
  refine lv_aload_n hx hb (show decode cX5_init 13 = .ok (.aload_n 0, 1) by decide +kernel) rfl (lv_at hl 0 rfl) ?_
  refine lv_iconst (v := 5) hx hb (show decode cX5_init 14 = .ok (.iconst 5, 1) by decide +kernel) rfl ?_
  refine va_newa (atype := .int) (ty := .int) (N' := 5) (a0 := (5, .inl (fun _ => 0))) hx hb (hts _ (List.mem_cons_of_mem _ wo_4)) rfl hK hP hD hS hA (fun _ => rfl) (by decide) (by decide +kernel) (by decide) (by decide) (by decide) (show decode cX5_init 15 = .ok (.newarray .int, 2) by decide +kernel) (fun q2 c2 H hK1 hP hD hS => ?_)
  have hc2 : c2 = cA 1 := RA_1 (hK1.2 5 (c2, .int) rfl).2 (hK.2 0 (cA 1, .int) rfl).2
  subst hc2
  refine va_putF (ci := 5) (v := .ref q2) (ty := .array .int) (C := RX5) (T := TX5) (N := 6) hx hb hts wu_X5 tyX5 tyX5_ok nmX5 hown hK hP hD hS 0 rfl rfl 1 (by decide) (hts _ (List.mem_cons_of_mem _ wf_X5_1)) (fun _ h9 => h9) rfl hin rfl (by decide +kernel) rfl rfl (Nat.le_of_ble_eq_true rfl) (show decode cX5_init 17 = .ok (.putfield 15, 3) by decide +kernel) (fun H locs hP hD hS => ?_)
  refine lv_aload_n hx hb (show decode cX5_init 20 = .ok (.aload_n 0, 1) by decide +kernel) rfl (lv_at hl 0 rfl) ?_
  refine lv_bipush (v := 6) hx hb (show decode cX5_init 21 = .ok (.bipush 6, 2) by decide +kernel) rfl ?_
  refine va_newa (atype := .int) (ty := .int) (N' := 6) (a0 := (6, .inl (fun _ => 0))) hx hb (hts _ (List.mem_cons_of_mem _ wo_4)) rfl hK hP hD hS hA (fun _ => rfl) (by decide) (by decide +kernel) (by decide) (by decide) (by decide) (show decode cX5_init 23 = .ok (.newarray .int, 2) by decide +kernel) (fun q3 c3 H hK1 hP hD hS => ?_)
  have hc3 : c3 = cA 1 := RA_1 (hK1.2 5 (c3, .int) rfl).2 (hK.2 0 (cA 1, .int) rfl).2
  subst hc3
  refine va_putF (ci := 5) (v := .ref q3) (ty := .array .int) (C := RX5) (T := TX5) (N := 6) hx hb hts wu_X5 tyX5 tyX5_ok nmX5 hown hK hP hD hS 0 rfl rfl 2 (by decide) (hts _ (List.mem_cons_of_mem _ wf_X5_2)) (fun _ h9 => h9) rfl hin rfl (by decide +kernel) rfl rfl (Nat.le_of_ble_eq_true rfl) (show decode cX5_init 25 = .ok (.putfield 18, 3) by decide +kernel) (fun H locs hP hD hS => ?_)
  refine lv_aload_n hx hb (show decode cX5_init 28 = .ok (.aload_n 0, 1) by decide +kernel) rfl (lv_at hl 0 rfl) ?_
  refine lv_iconst (v := 5) hx hb (show decode cX5_init 29 = .ok (.iconst 5, 1) by decide +kernel) rfl ?_
  refine va_newa (atype := .int) (ty := .int) (N' := 5) (a0 := (5, .inl (fun _ => 0))) hx hb (hts _ (List.mem_cons_of_mem _ wo_4)) rfl hK hP hD hS hA (fun _ => rfl) (by decide) (by decide +kernel) (by decide) (by decide) (by decide) (show decode cX5_init 30 = .ok (.newarray .int, 2) by decide +kernel) (fun q4 c4 H hK1 hP hD hS => ?_)
  have hc4 : c4 = cA 1 := RA_1 (hK1.2 5 (c4, .int) rfl).2 (hK.2 0 (cA 1, .int) rfl).2
  subst hc4
  refine va_putF (ci := 5) (v := .ref q4) (ty := .array .int) (C := RX5) (T := TX5) (N := 6) hx hb hts wu_X5 tyX5 tyX5_ok nmX5 hown hK hP hD hS 0 rfl rfl 3 (by decide) (hts _ (List.mem_cons_of_mem _ wf_X5_3)) (fun _ h9 => h9) rfl hin rfl (by decide +kernel) rfl rfl (Nat.le_of_ble_eq_true rfl) (show decode cX5_init 32 = .ok (.putfield 21, 3) by decide +kernel) (fun H locs hP hD hS => ?_)
  exact W.vret hx hb hr (fun t ht hW => ⟨⟨rfl, q1, q2, q3, q4, by rw [ht]; exact hP, hD⟩, hS.F ht⟩) hS.2.2 (show decode cX5_init 35 = .ok (.return_, 1) by decide +kernel)
theorem wn_X7 : Cond.methodLink RX7 3 Lib.objectInit ∈ k_ws := by decide +kernel
theorem wu_X7 : ∀ w ∈ u_ws RX7 TX7 11, w ∈ k_wi yX7_init cX7_init 1 := by decide +kernel
theorem wf_X7_4 : Cond.fieldLink RX7 9 "MissingNote$Valley" "shapes" "[I" ∈ k_ws := by decide +kernel
theorem wf_X7_5 : Cond.fieldLink RX7 15 "MissingNote$Valley" "sounds" "[I" ∈ k_ws := by decide +kernel
theorem wf_X7_6 : Cond.fieldLink RX7 18 "MissingNote$Valley" "kind" "[I" ∈ k_ws := by decide +kernel
theorem wf_X7_7 : Cond.fieldLink RX7 21 "MissingNote$Valley" "low" "[I" ∈ k_ws := by decide +kernel
theorem wf_X7_8 : Cond.fieldLink RX7 24 "MissingNote$Valley" "high" "[I" ∈ k_ws := by decide +kernel
theorem wf_X7_9 : Cond.fieldLink RX7 27 "MissingNote$Valley" "place" "[I" ∈ k_ws := by decide +kernel
theorem wf_X7_10 : Cond.fieldLink RX7 30 "MissingNote$Valley" "tired" "[I" ∈ k_ws := by decide +kernel
def at_Valley (D : va_G) (A : Nat → Prop) (cA : Nat → ClassId) (h0 : Nat) (U : State) : Prop := ∃ q1 q2 q3 q4 q5 q6 q7, va_P D vwCl [(h0, .inr (7, [.int 0, .int 0, .int 0, .int 0, .ref q1, .ref q2, .ref q3, .ref q4, .ref q5, .ref q6, .ref q7])), (q1, .inl (cA 1, 4, .inl (fun _ => 0))), (q2, .inl (cA 1, 5, .inl (fun _ => 0))), (q3, .inl (cA 1, 5, .inl (fun _ => 0))), (q4, .inl (cA 1, 5, .inl (fun _ => 0))), (q5, .inl (cA 1, 5, .inl (fun _ => 0))), (q6, .inl (cA 1, 5, .inl (fun _ => 0))), (q7, .inl (cA 1, 5, .inl (fun _ => 0)))] U.heap ∧ va_D A [(h0, .inr (7, [.int 0, .int 0, .int 0, .int 0, .ref q1, .ref q2, .ref q3, .ref q4, .ref q5, .ref q6, .ref q7])), (q1, .inl (cA 1, 4, .inl (fun _ => 0))), (q2, .inl (cA 1, 5, .inl (fun _ => 0))), (q3, .inl (cA 1, 5, .inl (fun _ => 0))), (q4, .inl (cA 1, 5, .inl (fun _ => 0))), (q5, .inl (cA 1, 5, .inl (fun _ => 0))), (q6, .inl (cA 1, 5, .inl (fun _ => 0))), (q7, .inl (cA 1, 5, .inl (fun _ => 0)))]
set_option maxHeartbeats 4000000 in
set_option maxRecDepth 100000 in
theorem c_Valley (l : Launch) (D : va_G) (cA : Nat → ClassId) (h0 sz : Nat) : Met l yX7_init (k_wi yX7_init cX7_init 1) ({ frames := 1, cells := 7, slots := 34, locals := 30 }) (va_Pc [.ref h0] (fun U => U.heap.size = sz ∧ va_P D vwCl [(h0, .inr (7, [.int 0, .int 0, .int 0, .int 0, .null, .null, .null, .null, .null, .null, .null]))] U.heap ∧ va_K D vwCl (k_ty cA) U ∧ va_D (fun _ => True) [(h0, .inr (7, [.int 0, .int 0, .int 0, .int 0, .null, .null, .null, .null, .null, .null, .null]))])) (fun _ st oc t => (oc = .returned none ∧ at_Valley D (va_A [(h0, .inr (7, [.int 0, .int 0, .int 0, .int 0, .null, .null, .null, .null, .null, .null, .null]))] sz) cA h0 t) ∧ va_F (va_A [(h0, .inr (7, [.int 0, .int 0, .int 0, .int 0, .null, .null, .null, .null, .null, .null, .null]))] sz) st t) 7 34 (va_A [(h0, .inr (7, [.int 0, .int 0, .int 0, .int 0, .null, .null, .null, .null, .null, .null, .null]))] sz) := by
  refine Met.ofW (cc := cX7_init) (maxL := 1) (ret := none) (by decide) rfl ?_
  intro p e s m args below meth c s₁ B hml hv
  obtain ⟨rfl, hsz, hP, hK, hD0⟩ := hv
  have hx := B.exec
  have hb := B.bytes
  have hr := B.returns
  have hts := atoms_spec (ws := k_wi yX7_init cX7_init 1) B.pre
  have hown : s.vm.findClass RX7 = some m.cls := findClass_of_methodNamed B.named
  have hin : meth.name = "<init>" := (name_of_methodNamed B.named B.method).1
  subst hsz
  have hD := hD0.self (sz := s.heap.size)
  generalize hAe : va_A [(h0, .inr (7, [.int 0, .int 0, .int 0, .int 0, .null, .null, .null, .null, .null, .null, .null]))] s.heap.size = A at hD ⊢
  have hA : ∀ q : Nat, s.heap.size ≤ q → A q := fun q h => by rw [← hAe]; exact Or.inr h
  have hS : va_S A s.heap s.heap [] := va_S.rf
  have hl := lv_entry ([.ref h0]) (n := 1) (Nat.le_of_ble_eq_true rfl)
  rw [lg_entry_eq]
  generalize (lg_sl ([.ref h0]) ++ List.replicate (1 - (lg_sl ([.ref h0])).length) Slot.unset).toArray = ls at hl ⊢
  have hl : lv_has ls 1 [(0, .ref h0)] := hl
  refine lv_aload_n hx hb (show decode cX7_init 0 = .ok (.aload_n 0, 1) by decide +kernel) rfl (lv_at hl 0 rfl) ?_
  refine W.objInit hx hb hown (hts _ (List.mem_cons_of_mem _ wn_X7)) (hts _ (List.mem_cons_of_mem _ wo_1)) (hts _ (List.mem_cons_of_mem _ wo_2)) rfl (by rw [hml]; exact hl.1) rfl (show decode cX7_init 1 = .ok (.invokespecial 3, 3) by decide +kernel) (Nat.le_of_ble_eq_true rfl) (Nat.le_of_ble_eq_true rfl) ?_
  refine W.eq (g2 := F0 m 4 ls []) rfl ?_
  refine lv_aload_n hx hb (show decode cX7_init 4 = .ok (.aload_n 0, 1) by decide +kernel) rfl (lv_at hl 0 rfl) ?_
  refine lv_iconst (v := 4) hx hb (show decode cX7_init 5 = .ok (.iconst 4, 1) by decide +kernel) rfl ?_
  refine va_newa (atype := .int) (ty := .int) (N' := 4) (a0 := (4, .inl (fun _ => 0))) hx hb (hts _ (List.mem_cons_of_mem _ wo_4)) rfl hK hP hD hS hA (fun _ => rfl) (by decide) (by decide +kernel) (by decide) (by decide) (by decide) (show decode cX7_init 6 = .ok (.newarray .int, 2) by decide +kernel) (fun q1 c1 H hK1 hP hD hS => ?_)
  have hc1 : c1 = cA 1 := RA_1 (hK1.2 5 (c1, .int) rfl).2 (hK.2 0 (cA 1, .int) rfl).2
  subst hc1
  refine va_putF (ci := 7) (v := .ref q1) (ty := .array .int) (C := RX7) (T := TX7) (N := 11) hx hb hts wu_X7 tyX7 tyX7_ok nmX7 hown hK hP hD hS 0 rfl rfl 4 (by decide) (hts _ (List.mem_cons_of_mem _ wf_X7_4)) (fun _ h9 => h9) rfl hin rfl (by decide +kernel) rfl rfl (Nat.le_of_ble_eq_true rfl) (show decode cX7_init 8 = .ok (.putfield 9, 3) by decide +kernel) (fun H locs hP hD hS => ?_)
  refine lv_aload_n hx hb (show decode cX7_init 11 = .ok (.aload_n 0, 1) by decide +kernel) rfl (lv_at hl 0 rfl) ?_
  refine lv_iconst (v := 5) hx hb (show decode cX7_init 12 = .ok (.iconst 5, 1) by decide +kernel) rfl ?_
  refine va_newa (atype := .int) (ty := .int) (N' := 5) (a0 := (5, .inl (fun _ => 0))) hx hb (hts _ (List.mem_cons_of_mem _ wo_4)) rfl hK hP hD hS hA (fun _ => rfl) (by decide) (by decide +kernel) (by decide) (by decide) (by decide) (show decode cX7_init 13 = .ok (.newarray .int, 2) by decide +kernel) (fun q2 c2 H hK1 hP hD hS => ?_)
  have hc2 : c2 = cA 1 := RA_1 (hK1.2 5 (c2, .int) rfl).2 (hK.2 0 (cA 1, .int) rfl).2
  subst hc2
  refine va_putF (ci := 7) (v := .ref q2) (ty := .array .int) (C := RX7) (T := TX7) (N := 11) hx hb hts wu_X7 tyX7 tyX7_ok nmX7 hown hK hP hD hS 0 rfl rfl 5 (by decide) (hts _ (List.mem_cons_of_mem _ wf_X7_5)) (fun _ h9 => h9) rfl hin rfl (by decide +kernel) rfl rfl (Nat.le_of_ble_eq_true rfl) (show decode cX7_init 15 = .ok (.putfield 15, 3) by decide +kernel) (fun H locs hP hD hS => ?_)
  refine lv_aload_n hx hb (show decode cX7_init 18 = .ok (.aload_n 0, 1) by decide +kernel) rfl (lv_at hl 0 rfl) ?_
  refine lv_iconst (v := 5) hx hb (show decode cX7_init 19 = .ok (.iconst 5, 1) by decide +kernel) rfl ?_
  refine va_newa (atype := .int) (ty := .int) (N' := 5) (a0 := (5, .inl (fun _ => 0))) hx hb (hts _ (List.mem_cons_of_mem _ wo_4)) rfl hK hP hD hS hA (fun _ => rfl) (by decide) (by decide +kernel) (by decide) (by decide) (by decide) (show decode cX7_init 20 = .ok (.newarray .int, 2) by decide +kernel) (fun q3 c3 H hK1 hP hD hS => ?_)
  have hc3 : c3 = cA 1 := RA_1 (hK1.2 5 (c3, .int) rfl).2 (hK.2 0 (cA 1, .int) rfl).2
  subst hc3
  refine va_putF (ci := 7) (v := .ref q3) (ty := .array .int) (C := RX7) (T := TX7) (N := 11) hx hb hts wu_X7 tyX7 tyX7_ok nmX7 hown hK hP hD hS 0 rfl rfl 6 (by decide) (hts _ (List.mem_cons_of_mem _ wf_X7_6)) (fun _ h9 => h9) rfl hin rfl (by decide +kernel) rfl rfl (Nat.le_of_ble_eq_true rfl) (show decode cX7_init 22 = .ok (.putfield 18, 3) by decide +kernel) (fun H locs hP hD hS => ?_)
  refine lv_aload_n hx hb (show decode cX7_init 25 = .ok (.aload_n 0, 1) by decide +kernel) rfl (lv_at hl 0 rfl) ?_
  refine lv_iconst (v := 5) hx hb (show decode cX7_init 26 = .ok (.iconst 5, 1) by decide +kernel) rfl ?_
  refine va_newa (atype := .int) (ty := .int) (N' := 5) (a0 := (5, .inl (fun _ => 0))) hx hb (hts _ (List.mem_cons_of_mem _ wo_4)) rfl hK hP hD hS hA (fun _ => rfl) (by decide) (by decide +kernel) (by decide) (by decide) (by decide) (show decode cX7_init 27 = .ok (.newarray .int, 2) by decide +kernel) (fun q4 c4 H hK1 hP hD hS => ?_)
  have hc4 : c4 = cA 1 := RA_1 (hK1.2 5 (c4, .int) rfl).2 (hK.2 0 (cA 1, .int) rfl).2
  subst hc4
  refine va_putF (ci := 7) (v := .ref q4) (ty := .array .int) (C := RX7) (T := TX7) (N := 11) hx hb hts wu_X7 tyX7 tyX7_ok nmX7 hown hK hP hD hS 0 rfl rfl 7 (by decide) (hts _ (List.mem_cons_of_mem _ wf_X7_7)) (fun _ h9 => h9) rfl hin rfl (by decide +kernel) rfl rfl (Nat.le_of_ble_eq_true rfl) (show decode cX7_init 29 = .ok (.putfield 21, 3) by decide +kernel) (fun H locs hP hD hS => ?_)
  refine lv_aload_n hx hb (show decode cX7_init 32 = .ok (.aload_n 0, 1) by decide +kernel) rfl (lv_at hl 0 rfl) ?_
  refine lv_iconst (v := 5) hx hb (show decode cX7_init 33 = .ok (.iconst 5, 1) by decide +kernel) rfl ?_
  refine va_newa (atype := .int) (ty := .int) (N' := 5) (a0 := (5, .inl (fun _ => 0))) hx hb (hts _ (List.mem_cons_of_mem _ wo_4)) rfl hK hP hD hS hA (fun _ => rfl) (by decide) (by decide +kernel) (by decide) (by decide) (by decide) (show decode cX7_init 34 = .ok (.newarray .int, 2) by decide +kernel) (fun q5 c5 H hK1 hP hD hS => ?_)
  have hc5 : c5 = cA 1 := RA_1 (hK1.2 5 (c5, .int) rfl).2 (hK.2 0 (cA 1, .int) rfl).2
  subst hc5
  refine va_putF (ci := 7) (v := .ref q5) (ty := .array .int) (C := RX7) (T := TX7) (N := 11) hx hb hts wu_X7 tyX7 tyX7_ok nmX7 hown hK hP hD hS 0 rfl rfl 8 (by decide) (hts _ (List.mem_cons_of_mem _ wf_X7_8)) (fun _ h9 => h9) rfl hin rfl (by decide +kernel) rfl rfl (Nat.le_of_ble_eq_true rfl) (show decode cX7_init 36 = .ok (.putfield 24, 3) by decide +kernel) (fun H locs hP hD hS => ?_)
  refine lv_aload_n hx hb (show decode cX7_init 39 = .ok (.aload_n 0, 1) by decide +kernel) rfl (lv_at hl 0 rfl) ?_
  refine lv_iconst (v := 5) hx hb (show decode cX7_init 40 = .ok (.iconst 5, 1) by decide +kernel) rfl ?_
  refine va_newa (atype := .int) (ty := .int) (N' := 5) (a0 := (5, .inl (fun _ => 0))) hx hb (hts _ (List.mem_cons_of_mem _ wo_4)) rfl hK hP hD hS hA (fun _ => rfl) (by decide) (by decide +kernel) (by decide) (by decide) (by decide) (show decode cX7_init 41 = .ok (.newarray .int, 2) by decide +kernel) (fun q6 c6 H hK1 hP hD hS => ?_)
  have hc6 : c6 = cA 1 := RA_1 (hK1.2 5 (c6, .int) rfl).2 (hK.2 0 (cA 1, .int) rfl).2
  subst hc6
  refine va_putF (ci := 7) (v := .ref q6) (ty := .array .int) (C := RX7) (T := TX7) (N := 11) hx hb hts wu_X7 tyX7 tyX7_ok nmX7 hown hK hP hD hS 0 rfl rfl 9 (by decide) (hts _ (List.mem_cons_of_mem _ wf_X7_9)) (fun _ h9 => h9) rfl hin rfl (by decide +kernel) rfl rfl (Nat.le_of_ble_eq_true rfl) (show decode cX7_init 43 = .ok (.putfield 27, 3) by decide +kernel) (fun H locs hP hD hS => ?_)
  refine lv_aload_n hx hb (show decode cX7_init 46 = .ok (.aload_n 0, 1) by decide +kernel) rfl (lv_at hl 0 rfl) ?_
  refine lv_iconst (v := 5) hx hb (show decode cX7_init 47 = .ok (.iconst 5, 1) by decide +kernel) rfl ?_
  refine va_newa (atype := .int) (ty := .int) (N' := 5) (a0 := (5, .inl (fun _ => 0))) hx hb (hts _ (List.mem_cons_of_mem _ wo_4)) rfl hK hP hD hS hA (fun _ => rfl) (by decide) (by decide +kernel) (by decide) (by decide) (by decide) (show decode cX7_init 48 = .ok (.newarray .int, 2) by decide +kernel) (fun q7 c7 H hK1 hP hD hS => ?_)
  have hc7 : c7 = cA 1 := RA_1 (hK1.2 5 (c7, .int) rfl).2 (hK.2 0 (cA 1, .int) rfl).2
  subst hc7
  refine va_putF (ci := 7) (v := .ref q7) (ty := .array .int) (C := RX7) (T := TX7) (N := 11) hx hb hts wu_X7 tyX7 tyX7_ok nmX7 hown hK hP hD hS 0 rfl rfl 10 (by decide) (hts _ (List.mem_cons_of_mem _ wf_X7_10)) (fun _ h9 => h9) rfl hin rfl (by decide +kernel) rfl rfl (Nat.le_of_ble_eq_true rfl) (show decode cX7_init 50 = .ok (.putfield 30, 3) by decide +kernel) (fun H locs hP hD hS => ?_)
  exact W.vret hx hb hr (fun t ht hW => ⟨⟨rfl, q1, q2, q3, q4, q5, q6, q7, by rw [ht]; exact hP, hD⟩, hS.F ht⟩) hS.2.2 (show decode cX7_init 53 = .ok (.return_, 1) by decide +kernel)
