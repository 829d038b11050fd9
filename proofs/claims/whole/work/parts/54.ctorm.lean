/-! the reference begins (wip/gen/ctorm.py) -/
theorem wo_8 : Cond.arrayClass .boolean ∈ k_ws := by decide +kernel
theorem wn_X9 : Cond.methodLink RX9 1 Lib.objectInit ∈ k_ws := by decide +kernel
theorem wu_X9 : ∀ w ∈ u_ws RX9 TX9 19, w ∈ k_wi yX9_init cX9_init 2 := by decide +kernel
theorem wf_X9_0 : Cond.fieldLink RX9 7 "MissingNoteModel" "lane" "[I" ∈ k_ws := by decide +kernel
theorem wf_X9_1 : Cond.fieldLink RX9 13 "MissingNoteModel" "size" "[I" ∈ k_ws := by decide +kernel
theorem wf_X9_2 : Cond.fieldLink RX9 16 "MissingNoteModel" "item" "[J" ∈ k_ws := by decide +kernel
theorem wf_X9_4 : Cond.fieldLink RX9 20 "MissingNoteModel" "tape" "[I" ∈ k_ws := by decide +kernel
theorem wf_X9_6 : Cond.fieldLink RX9 23 "MissingNoteModel" "now" "[I" ∈ k_ws := by decide +kernel
theorem wf_X9_7 : Cond.fieldLink RX9 26 "MissingNoteModel" "read" "[I" ∈ k_ws := by decide +kernel
theorem wf_X9_8 : Cond.fieldLink RX9 29 "MissingNoteModel" "tried" "[I" ∈ k_ws := by decide +kernel
theorem wf_X9_9 : Cond.fieldLink RX9 32 "MissingNoteModel" "image" "[I" ∈ k_ws := by decide +kernel
theorem wf_X9_10 : Cond.fieldLink RX9 35 "MissingNoteModel" "isKept" "[Z" ∈ k_ws := by decide +kernel
theorem wf_X9_11 : Cond.fieldLink RX9 39 "MissingNoteModel" "actOf" "[I" ∈ k_ws := by decide +kernel
theorem wf_X9_13 : Cond.fieldLink RX9 42 "MissingNoteModel" "sung" "[I" ∈ k_ws := by decide +kernel
theorem wf_X9_14 : Cond.fieldLink RX9 45 "MissingNoteModel" "best" "[I" ∈ k_ws := by decide +kernel
theorem wf_X9_17 : Cond.fieldLink RX9 48 "MissingNoteModel" "often" "[I" ∈ k_ws := by decide +kernel
theorem wf_X9_18 : Cond.fieldLink RX9 51 "MissingNoteModel" "fits" "[Z" ∈ k_ws := by decide +kernel
def at_Model (D : va_G) (A : Nat → Prop) (cA : Nat → ClassId) (h0 : Nat) (U : State) : Prop := ∃ q1 q2 q3 q4 q5 q6 q7 q8 q9 q10 q11 q12 q13 q14, ∃ f : Nat → Int32, (∀ i, i < 4 → f i = -1) ∧ va_P D vwCl [(h0, .inr (9, [.ref q1, .ref q2, .ref q3, .int 0, .ref q4, .int 0, .ref q5, .ref q6, .ref q7, .ref q8, .ref q9, .ref q10, .int 0, .ref q11, .ref q12, .int 0, .int 0, .ref q13, .ref q14])), (q1, .inl (cA 1, 4, .inl f)), (q2, .inl (cA 1, 4, .inl (fun _ => 0))), (q3, .inl (cA 2, 96, .inr (.inl (fun _ => 0)))), (q4, .inl (cA 1, 130, .inl (fun _ => 0))), (q5, .inl (cA 1, 38, .inl (fun _ => 0))), (q6, .inl (cA 1, 38, .inl (fun _ => 0))), (q7, .inl (cA 1, 38, .inl (fun _ => 0))), (q8, .inl (cA 1, 76, .inl (fun _ => 0))), (q9, .inl (cA 3, 2, .inl (fun _ => 0))), (q10, .inl (cA 1, 912, .inl (fun _ => 0))), (q11, .inl (cA 1, 5, .inl (fun _ => 0))), (q12, .inl (cA 1, 5, .inl (fun _ => 0))), (q13, .inl (cA 1, 65, .inl (fun _ => 0))), (q14, .inl (cA 3, 4096, .inl (fun _ => 0)))] U.heap ∧ va_D A [(h0, .inr (9, [.ref q1, .ref q2, .ref q3, .int 0, .ref q4, .int 0, .ref q5, .ref q6, .ref q7, .ref q8, .ref q9, .ref q10, .int 0, .ref q11, .ref q12, .int 0, .int 0, .ref q13, .ref q14])), (q1, .inl (cA 1, 4, .inl f)), (q2, .inl (cA 1, 4, .inl (fun _ => 0))), (q3, .inl (cA 2, 96, .inr (.inl (fun _ => 0)))), (q4, .inl (cA 1, 130, .inl (fun _ => 0))), (q5, .inl (cA 1, 38, .inl (fun _ => 0))), (q6, .inl (cA 1, 38, .inl (fun _ => 0))), (q7, .inl (cA 1, 38, .inl (fun _ => 0))), (q8, .inl (cA 1, 76, .inl (fun _ => 0))), (q9, .inl (cA 3, 2, .inl (fun _ => 0))), (q10, .inl (cA 1, 912, .inl (fun _ => 0))), (q11, .inl (cA 1, 5, .inl (fun _ => 0))), (q12, .inl (cA 1, 5, .inl (fun _ => 0))), (q13, .inl (cA 1, 65, .inl (fun _ => 0))), (q14, .inl (cA 3, 4096, .inl (fun _ => 0)))]
set_option maxHeartbeats 4000000 in
set_option maxRecDepth 100000 in
theorem c_Model (l : Launch) (D : va_G) (cA : Nat → ClassId) (h0 sz : Nat) : Met l yX9_init (k_wi yX9_init cX9_init 2) ({ frames := 1, cells := 14, slots := 5509, locals := 30 }) (va_Pc [.ref h0] (fun U => U.heap.size = sz ∧ va_P D vwCl [(h0, .inr (9, [.null, .null, .null, .int 0, .null, .int 0, .null, .null, .null, .null, .null, .null, .int 0, .null, .null, .int 0, .int 0, .null, .null]))] U.heap ∧ va_K D vwCl (k_ty cA) U ∧ va_D (fun _ => True) [(h0, .inr (9, [.null, .null, .null, .int 0, .null, .int 0, .null, .null, .null, .null, .null, .null, .int 0, .null, .null, .int 0, .int 0, .null, .null]))])) (fun _ st oc t => (oc = .returned none ∧ at_Model D (va_A [(h0, .inr (9, [.null, .null, .null, .int 0, .null, .int 0, .null, .null, .null, .null, .null, .null, .int 0, .null, .null, .int 0, .int 0, .null, .null]))] sz) cA h0 t) ∧ va_F (va_A [(h0, .inr (9, [.null, .null, .null, .int 0, .null, .int 0, .null, .null, .null, .null, .null, .null, .int 0, .null, .null, .int 0, .int 0, .null, .null]))] sz) st t) 14 5509 (va_A [(h0, .inr (9, [.null, .null, .null, .int 0, .null, .int 0, .null, .null, .null, .null, .null, .null, .int 0, .null, .null, .int 0, .int 0, .null, .null]))] sz) := by
  refine Met.ofW (cc := cX9_init) (maxL := 2) (ret := none) (by decide) rfl ?_
  intro p e s m args below meth c s₁ B hml hv
  obtain ⟨rfl, hsz, hP, hK, hD0⟩ := hv
  have hx := B.exec
  have hb := B.bytes
  have hr := B.returns
  have hts := atoms_spec (ws := k_wi yX9_init cX9_init 2) B.pre
  have hown : s.vm.findClass RX9 = some m.cls := findClass_of_methodNamed B.named
  have hin : meth.name = "<init>" := (name_of_methodNamed B.named B.method).1
  subst hsz
  have hD := hD0.self (sz := s.heap.size)
  generalize hAe : va_A [(h0, .inr (9, [.null, .null, .null, .int 0, .null, .int 0, .null, .null, .null, .null, .null, .null, .int 0, .null, .null, .int 0, .int 0, .null, .null]))] s.heap.size = A at hD ⊢
  have hA : ∀ q : Nat, s.heap.size ≤ q → A q := fun q h => by rw [← hAe]; exact Or.inr h
  have hS : va_S A s.heap s.heap [] := va_S.rf
  have hl := lv_entry ([.ref h0]) (n := 2) (Nat.le_of_ble_eq_true rfl)
  rw [lg_entry_eq]
  generalize (lg_sl ([.ref h0]) ++ List.replicate (2 - (lg_sl ([.ref h0])).length) Slot.unset).toArray = ls at hl ⊢
  have hl : lv_has ls 2 [(0, .ref h0)] := hl
  refine lv_aload_n hx hb (show decode cX9_init 0 = .ok (.aload_n 0, 1) by decide +kernel) rfl (lv_at hl 0 rfl) ?_
  refine W.objInit hx hb hown (hts _ (List.mem_cons_of_mem _ wn_X9)) (hts _ (List.mem_cons_of_mem _ wo_1)) (hts _ (List.mem_cons_of_mem _ wo_2)) rfl (by rw [hml]; exact hl.1) rfl (show decode cX9_init 1 = .ok (.invokespecial 1, 3) by decide +kernel) (Nat.le_of_ble_eq_true rfl) (Nat.le_of_ble_eq_true rfl) ?_
  refine W.eq (g2 := F0 m 4 ls []) rfl ?_
  refine lv_aload_n hx hb (show decode cX9_init 4 = .ok (.aload_n 0, 1) by decide +kernel) rfl (lv_at hl 0 rfl) ?_
  refine lv_iconst (v := 4) hx hb (show decode cX9_init 5 = .ok (.iconst 4, 1) by decide +kernel) rfl ?_
  refine va_newa (atype := .int) (ty := .int) (N' := 4) (a0 := (4, .inl (fun _ => 0))) hx hb (hts _ (List.mem_cons_of_mem _ wo_4)) rfl hK hP hD hS hA (fun _ => rfl) (by decide) (by decide +kernel) (by decide) (by decide) (by decide) (show decode cX9_init 6 = .ok (.newarray .int, 2) by decide +kernel) (fun q1 c1 H hK1 hP hD hS => ?_)
  have hc1 : c1 = cA 1 := RA_1 (hK1.2 5 (c1, .int) rfl).2 (hK.2 0 (cA 1, .int) rfl).2
  subst hc1
  refine va_putF (ci := 9) (v := .ref q1) (ty := .array .int) (C := RX9) (T := TX9) (N := 19) hx hb hts wu_X9 tyX9 tyX9_ok nmX9 hown hK hP hD hS 0 rfl rfl 0 (by decide) (hts _ (List.mem_cons_of_mem _ wf_X9_0)) (fun _ h9 => h9) rfl hin rfl (by decide +kernel) rfl rfl (Nat.le_of_ble_eq_true rfl) (show decode cX9_init 8 = .ok (.putfield 7, 3) by decide +kernel) (fun H locs hP hD hS => ?_)
  refine lv_aload_n hx hb (show decode cX9_init 11 = .ok (.aload_n 0, 1) by decide +kernel) rfl (lv_at hl 0 rfl) ?_
  refine lv_iconst (v := 4) hx hb (show decode cX9_init 12 = .ok (.iconst 4, 1) by decide +kernel) rfl ?_
  refine va_newa (atype := .int) (ty := .int) (N' := 4) (a0 := (4, .inl (fun _ => 0))) hx hb (hts _ (List.mem_cons_of_mem _ wo_4)) rfl hK hP hD hS hA (fun _ => rfl) (by decide) (by decide +kernel) (by decide) (by decide) (by decide) (show decode cX9_init 13 = .ok (.newarray .int, 2) by decide +kernel) (fun q2 c2 H hK1 hP hD hS => ?_)
  have hc2 : c2 = cA 1 := RA_1 (hK1.2 5 (c2, .int) rfl).2 (hK.2 0 (cA 1, .int) rfl).2
  subst hc2
  refine va_putF (ci := 9) (v := .ref q2) (ty := .array .int) (C := RX9) (T := TX9) (N := 19) hx hb hts wu_X9 tyX9 tyX9_ok nmX9 hown hK hP hD hS 0 rfl rfl 1 (by decide) (hts _ (List.mem_cons_of_mem _ wf_X9_1)) (fun _ h9 => h9) rfl hin rfl (by decide +kernel) rfl rfl (Nat.le_of_ble_eq_true rfl) (show decode cX9_init 15 = .ok (.putfield 13, 3) by decide +kernel) (fun H locs hP hD hS => ?_)
  refine lv_aload_n hx hb (show decode cX9_init 18 = .ok (.aload_n 0, 1) by decide +kernel) rfl (lv_at hl 0 rfl) ?_
  refine lv_bipush (v := 96) hx hb (show decode cX9_init 19 = .ok (.bipush 96, 2) by decide +kernel) rfl ?_
  refine va_newa (atype := .long) (ty := .long) (N' := 96) (a0 := (96, .inr (.inl (fun _ => 0)))) hx hb (hts _ (List.mem_cons_of_mem _ wo_7)) rfl hK hP hD hS hA (fun _ => rfl) (by decide) (by decide +kernel) (by decide) (by decide) (by decide) (show decode cX9_init 21 = .ok (.newarray .long, 2) by decide +kernel) (fun q3 c3 H hK1 hP hD hS => ?_)
  have hc3 : c3 = cA 2 := RA_1 (hK1.2 5 (c3, .long) rfl).2 (hK.2 1 (cA 2, .long) rfl).2
  subst hc3
  refine va_putF (ci := 9) (v := .ref q3) (ty := .array .long) (C := RX9) (T := TX9) (N := 19) hx hb hts wu_X9 tyX9 tyX9_ok nmX9 hown hK hP hD hS 0 rfl rfl 2 (by decide) (hts _ (List.mem_cons_of_mem _ wf_X9_2)) (fun _ h9 => h9) rfl hin rfl (by decide +kernel) rfl rfl (Nat.le_of_ble_eq_true rfl) (show decode cX9_init 23 = .ok (.putfield 16, 3) by decide +kernel) (fun H locs hP hD hS => ?_)
  refine lv_aload_n hx hb (show decode cX9_init 26 = .ok (.aload_n 0, 1) by decide +kernel) rfl (lv_at hl 0 rfl) ?_
  refine lv_sipush (v := 130) hx hb (show decode cX9_init 27 = .ok (.sipush 130, 3) by decide +kernel) rfl ?_
  refine va_newa (atype := .int) (ty := .int) (N' := 130) (a0 := (130, .inl (fun _ => 0))) hx hb (hts _ (List.mem_cons_of_mem _ wo_4)) rfl hK hP hD hS hA (fun _ => rfl) (by decide) (by decide +kernel) (by decide) (by decide) (by decide) (show decode cX9_init 30 = .ok (.newarray .int, 2) by decide +kernel) (fun q4 c4 H hK1 hP hD hS => ?_)
  have hc4 : c4 = cA 1 := RA_1 (hK1.2 5 (c4, .int) rfl).2 (hK.2 0 (cA 1, .int) rfl).2
  subst hc4
  refine va_putF (ci := 9) (v := .ref q4) (ty := .array .int) (C := RX9) (T := TX9) (N := 19) hx hb hts wu_X9 tyX9 tyX9_ok nmX9 hown hK hP hD hS 0 rfl rfl 4 (by decide) (hts _ (List.mem_cons_of_mem _ wf_X9_4)) (fun _ h9 => h9) rfl hin rfl (by decide +kernel) rfl rfl (Nat.le_of_ble_eq_true rfl) (show decode cX9_init 32 = .ok (.putfield 20, 3) by decide +kernel) (fun H locs hP hD hS => ?_)
  refine lv_aload_n hx hb (show decode cX9_init 35 = .ok (.aload_n 0, 1) by decide +kernel) rfl (lv_at hl 0 rfl) ?_
  refine lv_bipush (v := 38) hx hb (show decode cX9_init 36 = .ok (.bipush 38, 2) by decide +kernel) rfl ?_
  refine va_newa (atype := .int) (ty := .int) (N' := 38) (a0 := (38, .inl (fun _ => 0))) hx hb (hts _ (List.mem_cons_of_mem _ wo_4)) rfl hK hP hD hS hA (fun _ => rfl) (by decide) (by decide +kernel) (by decide) (by decide) (by decide) (show decode cX9_init 38 = .ok (.newarray .int, 2) by decide +kernel) (fun q5 c5 H hK1 hP hD hS => ?_)
  have hc5 : c5 = cA 1 := RA_1 (hK1.2 5 (c5, .int) rfl).2 (hK.2 0 (cA 1, .int) rfl).2
  subst hc5
  refine va_putF (ci := 9) (v := .ref q5) (ty := .array .int) (C := RX9) (T := TX9) (N := 19) hx hb hts wu_X9 tyX9 tyX9_ok nmX9 hown hK hP hD hS 0 rfl rfl 6 (by decide) (hts _ (List.mem_cons_of_mem _ wf_X9_6)) (fun _ h9 => h9) rfl hin rfl (by decide +kernel) rfl rfl (Nat.le_of_ble_eq_true rfl) (show decode cX9_init 40 = .ok (.putfield 23, 3) by decide +kernel) (fun H locs hP hD hS => ?_)
  refine lv_aload_n hx hb (show decode cX9_init 43 = .ok (.aload_n 0, 1) by decide +kernel) rfl (lv_at hl 0 rfl) ?_
  refine lv_bipush (v := 38) hx hb (show decode cX9_init 44 = .ok (.bipush 38, 2) by decide +kernel) rfl ?_
  refine va_newa (atype := .int) (ty := .int) (N' := 38) (a0 := (38, .inl (fun _ => 0))) hx hb (hts _ (List.mem_cons_of_mem _ wo_4)) rfl hK hP hD hS hA (fun _ => rfl) (by decide) (by decide +kernel) (by decide) (by decide) (by decide) (show decode cX9_init 46 = .ok (.newarray .int, 2) by decide +kernel) (fun q6 c6 H hK1 hP hD hS => ?_)
  have hc6 : c6 = cA 1 := RA_1 (hK1.2 5 (c6, .int) rfl).2 (hK.2 0 (cA 1, .int) rfl).2
  subst hc6
  refine va_putF (ci := 9) (v := .ref q6) (ty := .array .int) (C := RX9) (T := TX9) (N := 19) hx hb hts wu_X9 tyX9 tyX9_ok nmX9 hown hK hP hD hS 0 rfl rfl 7 (by decide) (hts _ (List.mem_cons_of_mem _ wf_X9_7)) (fun _ h9 => h9) rfl hin rfl (by decide +kernel) rfl rfl (Nat.le_of_ble_eq_true rfl) (show decode cX9_init 48 = .ok (.putfield 26, 3) by decide +kernel) (fun H locs hP hD hS => ?_)
  refine lv_aload_n hx hb (show decode cX9_init 51 = .ok (.aload_n 0, 1) by decide +kernel) rfl (lv_at hl 0 rfl) ?_
  refine lv_bipush (v := 38) hx hb (show decode cX9_init 52 = .ok (.bipush 38, 2) by decide +kernel) rfl ?_
  refine va_newa (atype := .int) (ty := .int) (N' := 38) (a0 := (38, .inl (fun _ => 0))) hx hb (hts _ (List.mem_cons_of_mem _ wo_4)) rfl hK hP hD hS hA (fun _ => rfl) (by decide) (by decide +kernel) (by decide) (by decide) (by decide) (show decode cX9_init 54 = .ok (.newarray .int, 2) by decide +kernel) (fun q7 c7 H hK1 hP hD hS => ?_)
  have hc7 : c7 = cA 1 := RA_1 (hK1.2 5 (c7, .int) rfl).2 (hK.2 0 (cA 1, .int) rfl).2
  subst hc7
  refine va_putF (ci := 9) (v := .ref q7) (ty := .array .int) (C := RX9) (T := TX9) (N := 19) hx hb hts wu_X9 tyX9 tyX9_ok nmX9 hown hK hP hD hS 0 rfl rfl 8 (by decide) (hts _ (List.mem_cons_of_mem _ wf_X9_8)) (fun _ h9 => h9) rfl hin rfl (by decide +kernel) rfl rfl (Nat.le_of_ble_eq_true rfl) (show decode cX9_init 56 = .ok (.putfield 29, 3) by decide +kernel) (fun H locs hP hD hS => ?_)
  refine lv_aload_n hx hb (show decode cX9_init 59 = .ok (.aload_n 0, 1) by decide +kernel) rfl (lv_at hl 0 rfl) ?_
  refine lv_bipush (v := 76) hx hb (show decode cX9_init 60 = .ok (.bipush 76, 2) by decide +kernel) rfl ?_
  refine va_newa (atype := .int) (ty := .int) (N' := 76) (a0 := (76, .inl (fun _ => 0))) hx hb (hts _ (List.mem_cons_of_mem _ wo_4)) rfl hK hP hD hS hA (fun _ => rfl) (by decide) (by decide +kernel) (by decide) (by decide) (by decide) (show decode cX9_init 62 = .ok (.newarray .int, 2) by decide +kernel) (fun q8 c8 H hK1 hP hD hS => ?_)
  have hc8 : c8 = cA 1 := RA_1 (hK1.2 5 (c8, .int) rfl).2 (hK.2 0 (cA 1, .int) rfl).2
  subst hc8
  refine va_putF (ci := 9) (v := .ref q8) (ty := .array .int) (C := RX9) (T := TX9) (N := 19) hx hb hts wu_X9 tyX9 tyX9_ok nmX9 hown hK hP hD hS 0 rfl rfl 9 (by decide) (hts _ (List.mem_cons_of_mem _ wf_X9_9)) (fun _ h9 => h9) rfl hin rfl (by decide +kernel) rfl rfl (Nat.le_of_ble_eq_true rfl) (show decode cX9_init 64 = .ok (.putfield 32, 3) by decide +kernel) (fun H locs hP hD hS => ?_)
  refine lv_aload_n hx hb (show decode cX9_init 67 = .ok (.aload_n 0, 1) by decide +kernel) rfl (lv_at hl 0 rfl) ?_
  refine lv_iconst (v := 2) hx hb (show decode cX9_init 68 = .ok (.iconst 2, 1) by decide +kernel) rfl ?_
  refine va_newa (atype := .boolean) (ty := .boolean) (N' := 2) (a0 := (2, .inl (fun _ => 0))) hx hb (hts _ (List.mem_cons_of_mem _ wo_8)) rfl hK hP hD hS hA (fun _ => rfl) (by decide) (by decide +kernel) (by decide) (by decide) (by decide) (show decode cX9_init 69 = .ok (.newarray .boolean, 2) by decide +kernel) (fun q9 c9 H hK1 hP hD hS => ?_)
  have hc9 : c9 = cA 3 := RA_1 (hK1.2 5 (c9, .boolean) rfl).2 (hK.2 2 (cA 3, .boolean) rfl).2
  subst hc9
  refine va_putF (ci := 9) (v := .ref q9) (ty := .array .boolean) (C := RX9) (T := TX9) (N := 19) hx hb hts wu_X9 tyX9 tyX9_ok nmX9 hown hK hP hD hS 0 rfl rfl 10 (by decide) (hts _ (List.mem_cons_of_mem _ wf_X9_10)) (fun _ h9 => h9) rfl hin rfl (by decide +kernel) rfl rfl (Nat.le_of_ble_eq_true rfl) (show decode cX9_init 71 = .ok (.putfield 35, 3) by decide +kernel) (fun H locs hP hD hS => ?_)
  refine lv_aload_n hx hb (show decode cX9_init 74 = .ok (.aload_n 0, 1) by decide +kernel) rfl (lv_at hl 0 rfl) ?_
  refine lv_sipush (v := 912) hx hb (show decode cX9_init 75 = .ok (.sipush 912, 3) by decide +kernel) rfl ?_
  refine va_newa (atype := .int) (ty := .int) (N' := 912) (a0 := (912, .inl (fun _ => 0))) hx hb (hts _ (List.mem_cons_of_mem _ wo_4)) rfl hK hP hD hS hA (fun _ => rfl) (by decide) (by decide +kernel) (by decide) (by decide) (by decide) (show decode cX9_init 78 = .ok (.newarray .int, 2) by decide +kernel) (fun q10 c10 H hK1 hP hD hS => ?_)
  have hc10 : c10 = cA 1 := RA_1 (hK1.2 5 (c10, .int) rfl).2 (hK.2 0 (cA 1, .int) rfl).2
  subst hc10
  refine va_putF (ci := 9) (v := .ref q10) (ty := .array .int) (C := RX9) (T := TX9) (N := 19) hx hb hts wu_X9 tyX9 tyX9_ok nmX9 hown hK hP hD hS 0 rfl rfl 11 (by decide) (hts _ (List.mem_cons_of_mem _ wf_X9_11)) (fun _ h9 => h9) rfl hin rfl (by decide +kernel) rfl rfl (Nat.le_of_ble_eq_true rfl) (show decode cX9_init 80 = .ok (.putfield 39, 3) by decide +kernel) (fun H locs hP hD hS => ?_)
  refine lv_aload_n hx hb (show decode cX9_init 83 = .ok (.aload_n 0, 1) by decide +kernel) rfl (lv_at hl 0 rfl) ?_
  refine lv_iconst (v := 5) hx hb (show decode cX9_init 84 = .ok (.iconst 5, 1) by decide +kernel) rfl ?_
  refine va_newa (atype := .int) (ty := .int) (N' := 5) (a0 := (5, .inl (fun _ => 0))) hx hb (hts _ (List.mem_cons_of_mem _ wo_4)) rfl hK hP hD hS hA (fun _ => rfl) (by decide) (by decide +kernel) (by decide) (by decide) (by decide) (show decode cX9_init 85 = .ok (.newarray .int, 2) by decide +kernel) (fun q11 c11 H hK1 hP hD hS => ?_)
  have hc11 : c11 = cA 1 := RA_1 (hK1.2 5 (c11, .int) rfl).2 (hK.2 0 (cA 1, .int) rfl).2
  subst hc11
  refine va_putF (ci := 9) (v := .ref q11) (ty := .array .int) (C := RX9) (T := TX9) (N := 19) hx hb hts wu_X9 tyX9 tyX9_ok nmX9 hown hK hP hD hS 0 rfl rfl 13 (by decide) (hts _ (List.mem_cons_of_mem _ wf_X9_13)) (fun _ h9 => h9) rfl hin rfl (by decide +kernel) rfl rfl (Nat.le_of_ble_eq_true rfl) (show decode cX9_init 87 = .ok (.putfield 42, 3) by decide +kernel) (fun H locs hP hD hS => ?_)
  refine lv_aload_n hx hb (show decode cX9_init 90 = .ok (.aload_n 0, 1) by decide +kernel) rfl (lv_at hl 0 rfl) ?_
  refine lv_iconst (v := 5) hx hb (show decode cX9_init 91 = .ok (.iconst 5, 1) by decide +kernel) rfl ?_
  refine va_newa (atype := .int) (ty := .int) (N' := 5) (a0 := (5, .inl (fun _ => 0))) hx hb (hts _ (List.mem_cons_of_mem _ wo_4)) rfl hK hP hD hS hA (fun _ => rfl) (by decide) (by decide +kernel) (by decide) (by decide) (by decide) (show decode cX9_init 92 = .ok (.newarray .int, 2) by decide +kernel) (fun q12 c12 H hK1 hP hD hS => ?_)
  have hc12 : c12 = cA 1 := RA_1 (hK1.2 5 (c12, .int) rfl).2 (hK.2 0 (cA 1, .int) rfl).2
  subst hc12
  refine va_putF (ci := 9) (v := .ref q12) (ty := .array .int) (C := RX9) (T := TX9) (N := 19) hx hb hts wu_X9 tyX9 tyX9_ok nmX9 hown hK hP hD hS 0 rfl rfl 14 (by decide) (hts _ (List.mem_cons_of_mem _ wf_X9_14)) (fun _ h9 => h9) rfl hin rfl (by decide +kernel) rfl rfl (Nat.le_of_ble_eq_true rfl) (show decode cX9_init 94 = .ok (.putfield 45, 3) by decide +kernel) (fun H locs hP hD hS => ?_)
  refine lv_aload_n hx hb (show decode cX9_init 97 = .ok (.aload_n 0, 1) by decide +kernel) rfl (lv_at hl 0 rfl) ?_
  refine lv_bipush (v := 65) hx hb (show decode cX9_init 98 = .ok (.bipush 65, 2) by decide +kernel) rfl ?_
  refine va_newa (atype := .int) (ty := .int) (N' := 65) (a0 := (65, .inl (fun _ => 0))) hx hb (hts _ (List.mem_cons_of_mem _ wo_4)) rfl hK hP hD hS hA (fun _ => rfl) (by decide) (by decide +kernel) (by decide) (by decide) (by decide) (show decode cX9_init 100 = .ok (.newarray .int, 2) by decide +kernel) (fun q13 c13 H hK1 hP hD hS => ?_)
  have hc13 : c13 = cA 1 := RA_1 (hK1.2 5 (c13, .int) rfl).2 (hK.2 0 (cA 1, .int) rfl).2
  subst hc13
  refine va_putF (ci := 9) (v := .ref q13) (ty := .array .int) (C := RX9) (T := TX9) (N := 19) hx hb hts wu_X9 tyX9 tyX9_ok nmX9 hown hK hP hD hS 0 rfl rfl 17 (by decide) (hts _ (List.mem_cons_of_mem _ wf_X9_17)) (fun _ h9 => h9) rfl hin rfl (by decide +kernel) rfl rfl (Nat.le_of_ble_eq_true rfl) (show decode cX9_init 102 = .ok (.putfield 48, 3) by decide +kernel) (fun H locs hP hD hS => ?_)
  refine lv_aload_n hx hb (show decode cX9_init 105 = .ok (.aload_n 0, 1) by decide +kernel) rfl (lv_at hl 0 rfl) ?_
  refine lv_sipush (v := 4096) hx hb (show decode cX9_init 106 = .ok (.sipush 4096, 3) by decide +kernel) rfl ?_
  refine va_newa (atype := .boolean) (ty := .boolean) (N' := 4096) (a0 := (4096, .inl (fun _ => 0))) hx hb (hts _ (List.mem_cons_of_mem _ wo_8)) rfl hK hP hD hS hA (fun _ => rfl) (by decide) (by decide +kernel) (by decide) (by decide) (by decide) (show decode cX9_init 109 = .ok (.newarray .boolean, 2) by decide +kernel) (fun q14 c14 H hK1 hP hD hS => ?_)
  have hc14 : c14 = cA 3 := RA_1 (hK1.2 5 (c14, .boolean) rfl).2 (hK.2 2 (cA 3, .boolean) rfl).2
  subst hc14
  refine va_putF (ci := 9) (v := .ref q14) (ty := .array .boolean) (C := RX9) (T := TX9) (N := 19) hx hb hts wu_X9 tyX9 tyX9_ok nmX9 hown hK hP hD hS 0 rfl rfl 18 (by decide) (hts _ (List.mem_cons_of_mem _ wf_X9_18)) (fun _ h9 => h9) rfl hin rfl (by decide +kernel) rfl rfl (Nat.le_of_ble_eq_true rfl) (show decode cX9_init 111 = .ok (.putfield 51, 3) by decide +kernel) (fun H locs hP hD hS => ?_)
  sorry
