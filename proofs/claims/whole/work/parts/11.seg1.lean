/-! printed by wip/gen: stretches of the bytecode -/
theorem dX8_isField_0 : decode cX8_isField 0 = .ok (.iload_n 1, 1) := by decide +kernel
theorem dX8_isField_1 : decode cX8_isField 1 = .ok (.aload_n 0, 1) := by decide +kernel
theorem dX8_isField_2 : decode cX8_isField 2 = .ok (.getfield 19, 3) := by decide +kernel
theorem dX8_isField_5 : decode cX8_isField 5 = .ok (.getfield 277, 3) := by decide +kernel
theorem dX8_isField_8 : decode cX8_isField 8 = .ok (.invokestatic 70, 3) := by decide +kernel
theorem dX8_isField_11 : decode cX8_isField 11 = .ok (.ireturn, 1) := by decide +kernel
def R_X8_isField (a1 : Int32) (σ : kS) (x : Int32) (τ : kS) : Prop := Run SX jX8_isField [(.ref 0), (.int a1)] σ (some (.int x)) τ
set_option maxRecDepth 20000 in
theorem t_X8_isField {a1 : Int32} {σ : kS} {x : Int32} {τ : kS}  (h : x = (bI (wn a1 (σ.1 3 1))) ∧ τ = σ) : R_X8_isField a1 σ x τ := by
  refine x_run [some (.ref 0), some (.int a1)] (by decide +kernel) rfl (Nat.le_of_ble_eq_true rfl) ?_
  refine x_iload_n (pc := 0) 1 dX8_isField_0 rfl rfl ?_
  refine x_aload_n (pc := 1) 0 dX8_isField_1 rfl rfl ?_
  refine x_getR (pc := 2) dX8_isField_2 fX8_19 rfl rfl ?_
  refine x_getI (pc := 5) dX8_isField_5 fX8_277 rfl rfl ?_
  refine x_callS (pc := 8) [(.int a1), (.int (σ.1 3 1))] [] dX8_isField_8 ⟨⟨hX8_within.1, hX8_within.2.1, hX8_within.2.2, by decide⟩, mX8_70, sX8_within⟩ rfl rfl (Nat.le_of_ble_eq_true rfl) (i_X8_within) ?_
  exact x_zreturn2 (pc := 11) dX8_isField_11 rfl (k_zb _) h.1 h.2
theorem dX8_isSinger_0 : decode cX8_isSinger 0 = .ok (.iload_n 1, 1) := by decide +kernel
theorem dX8_isSinger_1 : decode cX8_isSinger 1 = .ok (.aload_n 0, 1) := by decide +kernel
theorem dX8_isSinger_2 : decode cX8_isSinger 2 = .ok (.getfield 19, 3) := by decide +kernel
theorem dX8_isSinger_5 : decode cX8_isSinger 5 = .ok (.getfield 93, 3) := by decide +kernel
theorem dX8_isSinger_8 : decode cX8_isSinger 8 = .ok (.invokestatic 70, 3) := by decide +kernel
theorem dX8_isSinger_11 : decode cX8_isSinger 11 = .ok (.ireturn, 1) := by decide +kernel
def R_X8_isSinger (a1 : Int32) (σ : kS) (x : Int32) (τ : kS) : Prop := Run SX jX8_isSinger [(.ref 0), (.int a1)] σ (some (.int x)) τ
set_option maxRecDepth 20000 in
theorem t_X8_isSinger {a1 : Int32} {σ : kS} {x : Int32} {τ : kS}  (h : x = (bI (wn a1 (σ.1 3 2))) ∧ τ = σ) : R_X8_isSinger a1 σ x τ := by
  refine x_run [some (.ref 0), some (.int a1)] (by decide +kernel) rfl (Nat.le_of_ble_eq_true rfl) ?_
  refine x_iload_n (pc := 0) 1 dX8_isSinger_0 rfl rfl ?_
  refine x_aload_n (pc := 1) 0 dX8_isSinger_1 rfl rfl ?_
  refine x_getR (pc := 2) dX8_isSinger_2 fX8_19 rfl rfl ?_
  refine x_getI (pc := 5) dX8_isSinger_5 fX8_93 rfl rfl ?_
  refine x_callS (pc := 8) [(.int a1), (.int (σ.1 3 2))] [] dX8_isSinger_8 ⟨⟨hX8_within.1, hX8_within.2.1, hX8_within.2.2, by decide⟩, mX8_70, sX8_within⟩ rfl rfl (Nat.le_of_ble_eq_true rfl) (i_X8_within) ?_
  exact x_zreturn2 (pc := 11) dX8_isSinger_11 rfl (k_zb _) h.1 h.2
theorem dX9_isField_0 : decode cX9_isField 0 = .ok (.iload_n 1, 1) := by decide +kernel
theorem dX9_isField_1 : decode cX9_isField 1 = .ok (.iconst 0, 1) := by decide +kernel
theorem dX9_isField_2 : decode cX9_isField 2 = .ok (.aload_n 0, 1) := by decide +kernel
theorem dX9_isField_3 : decode cX9_isField 3 = .ok (.getfield 23, 3) := by decide +kernel
theorem dX9_isField_6 : decode cX9_isField 6 = .ok (.iconst 2, 1) := by decide +kernel
theorem dX9_isField_7 : decode cX9_isField 7 = .ok (.iaload, 1) := by decide +kernel
theorem dX9_isField_8 : decode cX9_isField 8 = .ok (.iconst 1, 1) := by decide +kernel
theorem dX9_isField_9 : decode cX9_isField 9 = .ok (.isub, 1) := by decide +kernel
theorem dX9_isField_10 : decode cX9_isField 10 = .ok (.invokestatic 54, 3) := by decide +kernel
theorem dX9_isField_13 : decode cX9_isField 13 = .ok (.ireturn, 1) := by decide +kernel
def R_X9_isField (a1 : Int32) (σ : kS) (x : Int32) (τ : kS) : Prop := Run SM jX9_isField [(.ref 0), (.int a1)] σ (some (.int x)) τ
set_option maxRecDepth 20000 in
theorem t_X9_isField {a1 : Int32} {σ : kS} {x : Int32} {τ : kS}  (h : x = (bI (iv a1 (0 : Int32) ((σ.1 5 2) - (1 : Int32)))) ∧ τ = σ) : R_X9_isField a1 σ x τ := by
  refine x_run [some (.ref 0), some (.int a1)] (by decide +kernel) rfl (Nat.le_of_ble_eq_true rfl) ?_
  refine x_iload_n (pc := 0) 1 dX9_isField_0 rfl rfl ?_
  refine x_iconst (pc := 1) (0 : Int32) dX9_isField_1 (by decide +kernel) ?_
  refine x_aload_n (pc := 2) 0 dX9_isField_2 rfl rfl ?_
  refine x_getR (pc := 3) dX9_isField_3 fX9_23 rfl rfl ?_
  refine x_iconst (pc := 6) (2 : Int32) dX9_isField_6 (by decide +kernel) ?_
  refine x_ialoadK (pc := 7) (n := 38) 2 dX9_isField_7 rfl (by decide) (by decide +kernel) ?_
  refine x_iconst (pc := 8) (1 : Int32) dX9_isField_8 (by decide +kernel) ?_
  refine x_isub (pc := 9) dX9_isField_9 ?_
  refine x_callS (pc := 10) [(.int a1), (.int (0 : Int32)), (.int ((σ.1 5 2) - (1 : Int32)))] [] dX9_isField_10 ⟨⟨hX9_in.1, hX9_in.2.1, hX9_in.2.2, by decide⟩, mX9_54, sX9_in⟩ rfl rfl (Nat.le_of_ble_eq_true rfl) (i_X9_in) ?_
  exact x_zreturn2 (pc := 13) dX9_isField_13 rfl (k_zb _) h.1 h.2
theorem dX9_isOne_0 : decode cX9_isOne 0 = .ok (.iload_n 1, 1) := by decide +kernel
theorem dX9_isOne_1 : decode cX9_isOne 1 = .ok (.iconst 0, 1) := by decide +kernel
theorem dX9_isOne_2 : decode cX9_isOne 2 = .ok (.aload_n 0, 1) := by decide +kernel
theorem dX9_isOne_3 : decode cX9_isOne 3 = .ok (.getfield 23, 3) := by decide +kernel
theorem dX9_isOne_6 : decode cX9_isOne 6 = .ok (.iconst 3, 1) := by decide +kernel
theorem dX9_isOne_7 : decode cX9_isOne 7 = .ok (.iaload, 1) := by decide +kernel
theorem dX9_isOne_8 : decode cX9_isOne 8 = .ok (.iconst 1, 1) := by decide +kernel
theorem dX9_isOne_9 : decode cX9_isOne 9 = .ok (.isub, 1) := by decide +kernel
theorem dX9_isOne_10 : decode cX9_isOne 10 = .ok (.invokestatic 54, 3) := by decide +kernel
theorem dX9_isOne_13 : decode cX9_isOne 13 = .ok (.ireturn, 1) := by decide +kernel
def R_X9_isOne (a1 : Int32) (σ : kS) (x : Int32) (τ : kS) : Prop := Run SM jX9_isOne [(.ref 0), (.int a1)] σ (some (.int x)) τ
set_option maxRecDepth 20000 in
theorem t_X9_isOne {a1 : Int32} {σ : kS} {x : Int32} {τ : kS}  (h : x = (bI (iv a1 (0 : Int32) ((σ.1 5 3) - (1 : Int32)))) ∧ τ = σ) : R_X9_isOne a1 σ x τ := by
  refine x_run [some (.ref 0), some (.int a1)] (by decide +kernel) rfl (Nat.le_of_ble_eq_true rfl) ?_
  refine x_iload_n (pc := 0) 1 dX9_isOne_0 rfl rfl ?_
  refine x_iconst (pc := 1) (0 : Int32) dX9_isOne_1 (by decide +kernel) ?_
  refine x_aload_n (pc := 2) 0 dX9_isOne_2 rfl rfl ?_
  refine x_getR (pc := 3) dX9_isOne_3 fX9_23 rfl rfl ?_
  refine x_iconst (pc := 6) (3 : Int32) dX9_isOne_6 (by decide +kernel) ?_
  refine x_ialoadK (pc := 7) (n := 38) 3 dX9_isOne_7 rfl (by decide) (by decide +kernel) ?_
  refine x_iconst (pc := 8) (1 : Int32) dX9_isOne_8 (by decide +kernel) ?_
  refine x_isub (pc := 9) dX9_isOne_9 ?_
  refine x_callS (pc := 10) [(.int a1), (.int (0 : Int32)), (.int ((σ.1 5 3) - (1 : Int32)))] [] dX9_isOne_10 ⟨⟨hX9_in.1, hX9_in.2.1, hX9_in.2.2, by decide⟩, mX9_54, sX9_in⟩ rfl rfl (Nat.le_of_ble_eq_true rfl) (i_X9_in) ?_
  exact x_zreturn2 (pc := 13) dX9_isOne_13 rfl (k_zb _) h.1 h.2
theorem dX9_isSheet_0 : decode cX9_isSheet 0 = .ok (.iload_n 0, 1) := by decide +kernel
theorem dX9_isSheet_1 : decode cX9_isSheet 1 = .ok (.iconst 0, 1) := by decide +kernel
theorem dX9_isSheet_2 : decode cX9_isSheet 2 = .ok (.iconst 3, 1) := by decide +kernel
theorem dX9_isSheet_3 : decode cX9_isSheet 3 = .ok (.invokestatic 54, 3) := by decide +kernel
theorem dX9_isSheet_6 : decode cX9_isSheet 6 = .ok (.ireturn, 1) := by decide +kernel
def R_X9_isSheet (a0 : Int32) (σ : kS) (x : Int32) (τ : kS) : Prop := Run SM jX9_isSheet [(.int a0)] σ (some (.int x)) τ
set_option maxRecDepth 20000 in
theorem t_X9_isSheet {a0 : Int32} {σ : kS} {x : Int32} {τ : kS}  (h : x = (bI (iv a0 (0 : Int32) (3 : Int32))) ∧ τ = σ) : R_X9_isSheet a0 σ x τ := by
  refine x_run [some (.int a0)] (by decide +kernel) rfl (Nat.le_of_ble_eq_true rfl) ?_
  refine x_iload_n (pc := 0) 0 dX9_isSheet_0 rfl rfl ?_
  refine x_iconst (pc := 1) (0 : Int32) dX9_isSheet_1 (by decide +kernel) ?_
  refine x_iconst (pc := 2) (3 : Int32) dX9_isSheet_2 (by decide +kernel) ?_
  refine x_callS (pc := 3) [(.int a0), (.int (0 : Int32)), (.int (3 : Int32))] [] dX9_isSheet_3 ⟨⟨hX9_in.1, hX9_in.2.1, hX9_in.2.2, by decide⟩, mX9_54, sX9_in⟩ rfl rfl (Nat.le_of_ble_eq_true rfl) (i_X9_in) ?_
  exact x_zreturn2 (pc := 6) dX9_isSheet_6 rfl (k_zb _) h.1 h.2
