/-! the constructors -/
def k_wi (y : MethodName) (b : ByteArray) (n : Nat) : List Cond := Cond.code y b n none :: k_ws
theorem wo_1 : Cond.instanceMethod Lib.objectInit ∈ k_ws := by decide +kernel
theorem wo_2 : Cond.code Lib.objectInit ⟨#[0xb1]⟩ 1 none ∈ k_ws := by decide +kernel
theorem wo_3 : Cond.methodLink RX6 3 Lib.objectInit ∈ k_ws := by decide +kernel
theorem wo_4 : Cond.arrayClass .int ∈ k_ws := by decide +kernel
theorem wo_6 : ∀ w ∈ u_ws RX6 TX6 3, w ∈ k_wi yX6_init cX6_init 1 := by decide +kernel
theorem wo_5 : Cond.fieldLink RX6 9 "MissingNote$Tape" "bytes" "[I" ∈ k_ws := by decide +kernel
def at_Tape (D : va_G) (A : Nat → Prop) (cA : Nat → ClassId) (h0 : Nat) (U : State) : Prop := ∃ q, va_P D vwCl [(h0, .inr (6, [.ref q, .int 0, .int 0])), (q, .inl (cA 1, 130, .inl (fun _ => 0)))] U.heap ∧ va_D A [(h0, .inr (6, [.ref q, .int 0, .int 0])), (q, .inl (cA 1, 130, .inl (fun _ => 0)))]
set_option maxHeartbeats 4000000 in
set_option maxRecDepth 100000 in
theorem c_Tape (l : Launch) (D : va_G) (cA : Nat → ClassId) (h0 sz : Nat) : Met l yX6_init (k_wi yX6_init cX6_init 1) ({ frames := 1, cells := 1, slots := 130, locals := 30 }) (va_Pc [.ref h0] (fun U => U.heap.size = sz ∧ va_P D vwCl [(h0, .inr (6, [.null, .int 0, .int 0]))] U.heap ∧ va_K D vwCl (k_ty cA) U ∧ va_D (fun _ => True) [(h0, .inr (6, [.null, .int 0, .int 0]))])) (fun _ st oc t => (oc = .returned none ∧ at_Tape D (va_A [(h0, .inr (6, [.null, .int 0, .int 0]))] sz) cA h0 t) ∧ va_F (va_A [(h0, .inr (6, [.null, .int 0, .int 0]))] sz) st t) 1 130 (va_A [(h0, .inr (6, [.null, .int 0, .int 0]))] sz) := by
  refine Met.ofW (cc := cX6_init) (maxL := 1) (ret := none) (by decide) rfl ?_
  intro p e s m args below meth c s₁ B hml hv
  obtain ⟨rfl, hsz, hP, hK, hD0⟩ := hv
  have hx := B.exec
  have hb := B.bytes
  have hr := B.returns
  have hts := atoms_spec (ws := k_wi yX6_init cX6_init 1) B.pre
  have hown : s.vm.findClass RX6 = some m.cls := findClass_of_methodNamed B.named
  have hin : meth.name = "<init>" := (name_of_methodNamed B.named B.method).1
  subst hsz
  have hD := hD0.self (sz := s.heap.size)
  generalize hAe : va_A [(h0, .inr (6, [.null, .int 0, .int 0]))] s.heap.size = A at hD ⊢
  have hA : ∀ q : Nat, s.heap.size ≤ q → A q := fun q h => by rw [← hAe]; exact Or.inr h
  have hS : va_S A s.heap s.heap [] := va_S.rf
  have hl := lv_entry ([.ref h0]) (n := 1) (Nat.le_of_ble_eq_true rfl)
  rw [lg_entry_eq]
  generalize (lg_sl ([.ref h0]) ++ List.replicate (1 - (lg_sl ([.ref h0])).length) Slot.unset).toArray = ls at hl ⊢
  have hl : lv_has ls 1 [(0, .ref h0)] := hl
  refine lv_aload_n hx hb (show decode cX6_init 0 = .ok (.aload_n 0, 1) by decide +kernel) rfl (lv_at hl 0 rfl) ?_
  refine W.objInit hx hb hown (hts _ (List.mem_cons_of_mem _ wo_3)) (hts _ (List.mem_cons_of_mem _ wo_1)) (hts _ (List.mem_cons_of_mem _ wo_2)) rfl (by rw [hml]; exact hl.1) rfl (show decode cX6_init 1 = .ok (.invokespecial 3, 3) by decide +kernel) (Nat.le_of_ble_eq_true rfl) (Nat.le_of_ble_eq_true rfl) ?_
  refine W.eq (g2 := F0 m 4 ls []) rfl ?_
  refine lv_aload_n hx hb (show decode cX6_init 4 = .ok (.aload_n 0, 1) by decide +kernel) rfl (lv_at hl 0 rfl) ?_
  refine lv_sipush (v := 130) hx hb (show decode cX6_init 5 = .ok (.sipush 130, 3) by decide +kernel) rfl ?_
  refine va_newa (atype := .int) (ty := .int) (N' := 130) (a0 := (130, .inl (fun _ => 0))) hx hb (hts _ (List.mem_cons_of_mem _ wo_4)) rfl hK hP hD hS hA (fun _ => rfl) (by decide) (by decide +kernel) (by decide) (by decide) (by decide) (show decode cX6_init 8 = .ok (.newarray .int, 2) by decide +kernel) (fun q c1 H hK1 hP hD hS => ?_)
  have hc1 : c1 = cA 1 := RA_1 (hK1.2 5 (c1, .int) rfl).2 (hK.2 0 (cA 1, .int) rfl).2
  subst hc1
  refine va_putF (ci := 6) (v := .ref q) (ty := .array .int) (C := RX6) (T := TX6) (N := 3) hx hb hts wo_6 tyX6 tyX6_ok nmX6 hown hK hP hD hS 0 rfl rfl 0 (by decide) (hts _ (List.mem_cons_of_mem _ wo_5)) (fun _ h9 => h9) rfl hin rfl (by decide +kernel) rfl rfl (Nat.le_of_ble_eq_true rfl) (show decode cX6_init 10 = .ok (.putfield 9, 3) by decide +kernel) (fun H locs hP hD hS => ?_)
  exact W.vret hx hb hr (fun t ht hW => ⟨⟨rfl, q, by rw [ht]; exact hP, hD⟩, hS.F ht⟩) hS.2.2 (show decode cX6_init 13 = .ok (.return_, 1) by decide +kernel)
