/-! printed by wip/gen: stretches of the bytecode -/
theorem dX8_within_0 : decode cX8_within 0 = .ok (.iload_n 0, 1) := by decide +kernel
theorem dX8_within_1 : decode cX8_within 1 = .ok (.ifCond .lt 12, 3) := by decide +kernel
theorem dX8_within_4 : decode cX8_within 4 = .ok (.iload_n 0, 1) := by decide +kernel
theorem dX8_within_5 : decode cX8_within 5 = .ok (.iload_n 1, 1) := by decide +kernel
theorem dX8_within_6 : decode cX8_within 6 = .ok (.if_icmp .ge 7, 3) := by decide +kernel
theorem dX8_within_9 : decode cX8_within 9 = .ok (.iconst 1, 1) := by decide +kernel
theorem dX8_within_10 : decode cX8_within 10 = .ok (.goto 4, 3) := by decide +kernel
theorem dX8_within_13 : decode cX8_within 13 = .ok (.iconst 0, 1) := by decide +kernel
theorem dX8_within_14 : decode cX8_within 14 = .ok (.ireturn, 1) := by decide +kernel
def R_X8_within (a0 : Int32) (a1 : Int32) (σ : kS) (x : Int32) (τ : kS) : Prop := Run SX jX8_within [(.int a0), (.int a1)] σ (some (.int x)) τ
set_option maxRecDepth 20000 in
theorem t_X8_within {a0 : Int32} {a1 : Int32} {σ : kS} {x : Int32} {τ : kS}  (h : (a0 < 0 → x = (0 : Int32) ∧ τ = σ) ∧ (¬ a0 < 0 → (a1 ≤ a0 → x = (0 : Int32) ∧ τ = σ) ∧ (¬ a1 ≤ a0 → x = (1 : Int32) ∧ τ = σ))) : R_X8_within a0 a1 σ x τ := by
  refine x_run [some (.int a0), some (.int a1)] (by decide +kernel) rfl (Nat.le_of_ble_eq_true rfl) ?_
  refine x_iload_n (pc := 0) 0 dX8_within_0 rfl rfl ?_
  refine x_if_lt (pc := 1) 13 dX8_within_1 (by decide) (fun c1 => ?_) (fun c1 => ?_)
  · replace h := h.1 c1
    refine x_iconst (pc := 13) (0 : Int32) dX8_within_13 (by decide +kernel) ?_
    exact x_zreturn2 (pc := 14) dX8_within_14 rfl rfl h.1 h.2
  · replace h := h.2 c1
    refine x_iload_n (pc := 4) 0 dX8_within_4 rfl rfl ?_
    refine x_iload_n (pc := 5) 1 dX8_within_5 rfl rfl ?_
    refine x_icmp_ge (pc := 6) 13 dX8_within_6 (by decide) (fun c2 => ?_) (fun c2 => ?_)
    · replace h := h.1 c2
      refine x_iconst (pc := 13) (0 : Int32) dX8_within_13 (by decide +kernel) ?_
      exact x_zreturn2 (pc := 14) dX8_within_14 rfl rfl h.1 h.2
    · replace h := h.2 c2
      refine x_iconst (pc := 9) (1 : Int32) dX8_within_9 (by decide +kernel) ?_
      refine x_goto (pc := 10) 14 dX8_within_10 (by decide) ?_
      exact x_zreturn2 (pc := 14) dX8_within_14 rfl rfl h.1 h.2
theorem dX8_has_0 : decode cX8_has 0 = .ok (.iload_n 0, 1) := by decide +kernel
theorem dX8_has_1 : decode cX8_has 1 = .ok (.iload_n 1, 1) := by decide +kernel
theorem dX8_has_2 : decode cX8_has 2 = .ok (.ishr, 1) := by decide +kernel
theorem dX8_has_3 : decode cX8_has 3 = .ok (.iconst 1, 1) := by decide +kernel
theorem dX8_has_4 : decode cX8_has 4 = .ok (.iand, 1) := by decide +kernel
theorem dX8_has_5 : decode cX8_has 5 = .ok (.iconst 1, 1) := by decide +kernel
theorem dX8_has_6 : decode cX8_has 6 = .ok (.if_icmp .ne 7, 3) := by decide +kernel
theorem dX8_has_9 : decode cX8_has 9 = .ok (.iconst 1, 1) := by decide +kernel
theorem dX8_has_10 : decode cX8_has 10 = .ok (.goto 4, 3) := by decide +kernel
theorem dX8_has_13 : decode cX8_has 13 = .ok (.iconst 0, 1) := by decide +kernel
theorem dX8_has_14 : decode cX8_has 14 = .ok (.ireturn, 1) := by decide +kernel
def R_X8_has (a0 : Int32) (a1 : Int32) (σ : kS) (x : Int32) (τ : kS) : Prop := Run SX jX8_has [(.int a0), (.int a1)] σ (some (.int x)) τ
set_option maxRecDepth 20000 in
theorem t_X8_has {a0 : Int32} {a1 : Int32} {σ : kS} {x : Int32} {τ : kS}  (h : (¬ ((a0 >>> (a1 &&& 31)) &&& (1 : Int32)) = (1 : Int32) → x = (0 : Int32) ∧ τ = σ) ∧ (((a0 >>> (a1 &&& 31)) &&& (1 : Int32)) = (1 : Int32) → x = (1 : Int32) ∧ τ = σ)) : R_X8_has a0 a1 σ x τ := by
  refine x_run [some (.int a0), some (.int a1)] (by decide +kernel) rfl (Nat.le_of_ble_eq_true rfl) ?_
  refine x_iload_n (pc := 0) 0 dX8_has_0 rfl rfl ?_
  refine x_iload_n (pc := 1) 1 dX8_has_1 rfl rfl ?_
  refine x_ishr (pc := 2) dX8_has_2 ?_
  refine x_iconst (pc := 3) (1 : Int32) dX8_has_3 (by decide +kernel) ?_
  refine x_iand (pc := 4) dX8_has_4 ?_
  refine x_iconst (pc := 5) (1 : Int32) dX8_has_5 (by decide +kernel) ?_
  refine x_icmp_ne (pc := 6) 13 dX8_has_6 (by decide) (fun c1 => ?_) (fun c1 => ?_)
  · replace h := h.1 c1
    refine x_iconst (pc := 13) (0 : Int32) dX8_has_13 (by decide +kernel) ?_
    exact x_zreturn2 (pc := 14) dX8_has_14 rfl rfl h.1 h.2
  · replace h := h.2 c1
    refine x_iconst (pc := 9) (1 : Int32) dX8_has_9 (by decide +kernel) ?_
    refine x_goto (pc := 10) 14 dX8_has_10 (by decide) ?_
    exact x_zreturn2 (pc := 14) dX8_has_14 rfl rfl h.1 h.2
theorem dX8_tellPlace_0 : decode cX8_tellPlace 0 = .ok (.iload_n 0, 1) := by decide +kernel
theorem dX8_tellPlace_1 : decode cX8_tellPlace 1 = .ok (.iconst (-1), 1) := by decide +kernel
theorem dX8_tellPlace_2 : decode cX8_tellPlace 2 = .ok (.if_icmp .ne 8, 3) := by decide +kernel
theorem dX8_tellPlace_5 : decode cX8_tellPlace 5 = .ok (.bipush (-4), 2) := by decide +kernel
theorem dX8_tellPlace_7 : decode cX8_tellPlace 7 = .ok (.goto 4, 3) := by decide +kernel
theorem dX8_tellPlace_10 : decode cX8_tellPlace 10 = .ok (.iload_n 0, 1) := by decide +kernel
theorem dX8_tellPlace_11 : decode cX8_tellPlace 11 = .ok (.ireturn, 1) := by decide +kernel
def R_X8_tellPlace (a0 : Int32) (σ : kS) (x : Int32) (τ : kS) : Prop := Run SX jX8_tellPlace [(.int a0)] σ (some (.int x)) τ
set_option maxRecDepth 20000 in
theorem t_X8_tellPlace {a0 : Int32} {σ : kS} {x : Int32} {τ : kS}  (h : (¬ a0 = (-1 : Int32) → x = a0 ∧ τ = σ) ∧ (a0 = (-1 : Int32) → x = (-4 : Int32) ∧ τ = σ)) : R_X8_tellPlace a0 σ x τ := by
  refine x_run [some (.int a0)] (by decide +kernel) rfl (Nat.le_of_ble_eq_true rfl) ?_
  refine x_iload_n (pc := 0) 0 dX8_tellPlace_0 rfl rfl ?_
  refine x_iconst (pc := 1) (-1 : Int32) dX8_tellPlace_1 (by decide +kernel) ?_
  refine x_icmp_ne (pc := 2) 10 dX8_tellPlace_2 (by decide) (fun c1 => ?_) (fun c1 => ?_)
  · replace h := h.1 c1
    refine x_iload_n (pc := 10) 0 dX8_tellPlace_10 rfl rfl ?_
    exact x_ireturn2 (pc := 11) dX8_tellPlace_11 rfl h.1 h.2
  · replace h := h.2 c1
    refine x_bipush (pc := 5) (-4 : Int32) dX8_tellPlace_5 (by decide +kernel) ?_
    refine x_goto (pc := 7) 11 dX8_tellPlace_7 (by decide) ?_
    exact x_ireturn2 (pc := 11) dX8_tellPlace_11 rfl h.1 h.2
theorem dX7_isThere_0 : decode cX7_isThere 0 = .ok (.aload_n 0, 1) := by decide +kernel
theorem dX7_isThere_1 : decode cX7_isThere 1 = .ok (.getfield 33, 3) := by decide +kernel
theorem dX7_isThere_4 : decode cX7_isThere 4 = .ok (.ifCond .le 14, 3) := by decide +kernel
theorem dX7_isThere_7 : decode cX7_isThere 7 = .ok (.aload_n 0, 1) := by decide +kernel
theorem dX7_isThere_8 : decode cX7_isThere 8 = .ok (.getfield 37, 3) := by decide +kernel
theorem dX7_isThere_11 : decode cX7_isThere 11 = .ok (.ifCond .le 7, 3) := by decide +kernel
theorem dX7_isThere_14 : decode cX7_isThere 14 = .ok (.iconst 1, 1) := by decide +kernel
theorem dX7_isThere_15 : decode cX7_isThere 15 = .ok (.goto 4, 3) := by decide +kernel
theorem dX7_isThere_18 : decode cX7_isThere 18 = .ok (.iconst 0, 1) := by decide +kernel
theorem dX7_isThere_19 : decode cX7_isThere 19 = .ok (.ireturn, 1) := by decide +kernel
def R_X7_isThere (v : Nat) (σ : kS) (x : Int32) (τ : kS) : Prop := Run SX jX7_isThere [(.ref v)] σ (some (.int x)) τ
set_option maxRecDepth 20000 in
theorem t_X7_isThere {v : Nat} {σ : kS} {x : Int32} {τ : kS} (hv : k_vly v = true) (h : ((σ.1 v 1) ≤ 0 → x = (0 : Int32) ∧ τ = σ) ∧ (¬ (σ.1 v 1) ≤ 0 → ((σ.1 v 2) ≤ 0 → x = (0 : Int32) ∧ τ = σ) ∧ (¬ (σ.1 v 2) ≤ 0 → x = (1 : Int32) ∧ τ = σ))) : R_X7_isThere v σ x τ := by
  refine x_run [some (.ref v)] (by decide +kernel) rfl (Nat.le_of_ble_eq_true rfl) ?_
  refine x_aload_n (pc := 0) 0 dX7_isThere_0 rfl rfl ?_
  refine x_getI (pc := 1) dX7_isThere_1 fX7_33 (vl_is hv) (vl_i1 hv) ?_
  refine x_if_le (pc := 4) 18 dX7_isThere_4 (by decide) (fun c1 => ?_) (fun c1 => ?_)
  · replace h := h.1 c1
    refine x_iconst (pc := 18) (0 : Int32) dX7_isThere_18 (by decide +kernel) ?_
    exact x_zreturn2 (pc := 19) dX7_isThere_19 rfl rfl h.1 h.2
  · replace h := h.2 c1
    refine x_aload_n (pc := 7) 0 dX7_isThere_7 rfl rfl ?_
    refine x_getI (pc := 8) dX7_isThere_8 fX7_37 (vl_is hv) (vl_i2 hv) ?_
    refine x_if_le (pc := 11) 18 dX7_isThere_11 (by decide) (fun c2 => ?_) (fun c2 => ?_)
    · replace h := h.1 c2
      refine x_iconst (pc := 18) (0 : Int32) dX7_isThere_18 (by decide +kernel) ?_
      exact x_zreturn2 (pc := 19) dX7_isThere_19 rfl rfl h.1 h.2
    · replace h := h.2 c2
      refine x_iconst (pc := 14) (1 : Int32) dX7_isThere_14 (by decide +kernel) ?_
      refine x_goto (pc := 15) 19 dX7_isThere_15 (by decide) ?_
      exact x_zreturn2 (pc := 19) dX7_isThere_19 rfl rfl h.1 h.2
theorem dX4_isThere_0 : decode cX4_isThere 0 = .ok (.aload_n 0, 1) := by decide +kernel
theorem dX4_isThere_1 : decode cX4_isThere 1 = .ok (.getfield 11, 3) := by decide +kernel
theorem dX4_isThere_4 : decode cX4_isThere 4 = .ok (.iconst (-1), 1) := by decide +kernel
theorem dX4_isThere_5 : decode cX4_isThere 5 = .ok (.if_icmp .eq 7, 3) := by decide +kernel
theorem dX4_isThere_8 : decode cX4_isThere 8 = .ok (.iconst 1, 1) := by decide +kernel
theorem dX4_isThere_9 : decode cX4_isThere 9 = .ok (.goto 4, 3) := by decide +kernel
theorem dX4_isThere_12 : decode cX4_isThere 12 = .ok (.iconst 0, 1) := by decide +kernel
theorem dX4_isThere_13 : decode cX4_isThere 13 = .ok (.ireturn, 1) := by decide +kernel
def R_X4_isThere (s : Nat) (σ : kS) (x : Int32) (τ : kS) : Prop := Run SX jX4_isThere [(.ref s)] σ (some (.int x)) τ
set_option maxRecDepth 20000 in
theorem t_X4_isThere {s : Nat} {σ : kS} {x : Int32} {τ : kS} (hs : k_sht s = true) (h : ((σ.1 s 0) = (-1 : Int32) → x = (0 : Int32) ∧ τ = σ) ∧ (¬ (σ.1 s 0) = (-1 : Int32) → x = (1 : Int32) ∧ τ = σ)) : R_X4_isThere s σ x τ := by
  refine x_run [some (.ref s)] (by decide +kernel) rfl (Nat.le_of_ble_eq_true rfl) ?_
  refine x_aload_n (pc := 0) 0 dX4_isThere_0 rfl rfl ?_
  refine x_getI (pc := 1) dX4_isThere_1 fX4_11 (sh_is hs) (sh_i0 hs) ?_
  refine x_iconst (pc := 4) (-1 : Int32) dX4_isThere_4 (by decide +kernel) ?_
  refine x_icmp_eq (pc := 5) 12 dX4_isThere_5 (by decide) (fun c1 => ?_) (fun c1 => ?_)
  · replace h := h.1 c1
    refine x_iconst (pc := 12) (0 : Int32) dX4_isThere_12 (by decide +kernel) ?_
    exact x_zreturn2 (pc := 13) dX4_isThere_13 rfl rfl h.1 h.2
  · replace h := h.2 c1
    refine x_iconst (pc := 8) (1 : Int32) dX4_isThere_8 (by decide +kernel) ?_
    refine x_goto (pc := 9) 13 dX4_isThere_9 (by decide) ?_
    exact x_zreturn2 (pc := 13) dX4_isThere_13 rfl rfl h.1 h.2
theorem dJ9_max_7cf53_0 : decode cJ9_max_7cf53 0 = .ok (.iload_n 0, 1) := by decide +kernel
theorem dJ9_max_7cf53_1 : decode cJ9_max_7cf53 1 = .ok (.iload_n 1, 1) := by decide +kernel
theorem dJ9_max_7cf53_2 : decode cJ9_max_7cf53 2 = .ok (.if_icmp .lt 7, 3) := by decide +kernel
theorem dJ9_max_7cf53_5 : decode cJ9_max_7cf53 5 = .ok (.iload_n 0, 1) := by decide +kernel
theorem dJ9_max_7cf53_6 : decode cJ9_max_7cf53 6 = .ok (.goto 4, 3) := by decide +kernel
theorem dJ9_max_7cf53_9 : decode cJ9_max_7cf53 9 = .ok (.iload_n 1, 1) := by decide +kernel
theorem dJ9_max_7cf53_10 : decode cJ9_max_7cf53 10 = .ok (.ireturn, 1) := by decide +kernel
def R_J9_max_7cf53 (a0 : Int32) (a1 : Int32) (σ : kS) (x : Int32) (τ : kS) : Prop := Run SX jJ9_max_7cf53 [(.int a0), (.int a1)] σ (some (.int x)) τ
set_option maxRecDepth 20000 in
theorem t_J9_max_7cf53 {a0 : Int32} {a1 : Int32} {σ : kS} {x : Int32} {τ : kS}  (h : (a0 < a1 → x = a1 ∧ τ = σ) ∧ (¬ a0 < a1 → x = a0 ∧ τ = σ)) : R_J9_max_7cf53 a0 a1 σ x τ := by
  refine x_run [some (.int a0), some (.int a1)] (by decide +kernel) rfl (Nat.le_of_ble_eq_true rfl) ?_
  refine x_iload_n (pc := 0) 0 dJ9_max_7cf53_0 rfl rfl ?_
  refine x_iload_n (pc := 1) 1 dJ9_max_7cf53_1 rfl rfl ?_
  refine x_icmp_lt (pc := 2) 9 dJ9_max_7cf53_2 (by decide) (fun c1 => ?_) (fun c1 => ?_)
  · replace h := h.1 c1
    refine x_iload_n (pc := 9) 1 dJ9_max_7cf53_9 rfl rfl ?_
    exact x_ireturn2 (pc := 10) dJ9_max_7cf53_10 rfl h.1 h.2
  · replace h := h.2 c1
    refine x_iload_n (pc := 5) 0 dJ9_max_7cf53_5 rfl rfl ?_
    refine x_goto (pc := 6) 10 dJ9_max_7cf53_6 (by decide) ?_
    exact x_ireturn2 (pc := 10) dJ9_max_7cf53_10 rfl h.1 h.2
theorem dJ9_min_7cf53_0 : decode cJ9_min_7cf53 0 = .ok (.iload_n 0, 1) := by decide +kernel
theorem dJ9_min_7cf53_1 : decode cJ9_min_7cf53 1 = .ok (.iload_n 1, 1) := by decide +kernel
theorem dJ9_min_7cf53_2 : decode cJ9_min_7cf53 2 = .ok (.if_icmp .gt 7, 3) := by decide +kernel
theorem dJ9_min_7cf53_5 : decode cJ9_min_7cf53 5 = .ok (.iload_n 0, 1) := by decide +kernel
theorem dJ9_min_7cf53_6 : decode cJ9_min_7cf53 6 = .ok (.goto 4, 3) := by decide +kernel
theorem dJ9_min_7cf53_9 : decode cJ9_min_7cf53 9 = .ok (.iload_n 1, 1) := by decide +kernel
theorem dJ9_min_7cf53_10 : decode cJ9_min_7cf53 10 = .ok (.ireturn, 1) := by decide +kernel
def R_J9_min_7cf53 (a0 : Int32) (a1 : Int32) (σ : kS) (x : Int32) (τ : kS) : Prop := Run SX jJ9_min_7cf53 [(.int a0), (.int a1)] σ (some (.int x)) τ
set_option maxRecDepth 20000 in
theorem t_J9_min_7cf53 {a0 : Int32} {a1 : Int32} {σ : kS} {x : Int32} {τ : kS}  (h : (a1 < a0 → x = a1 ∧ τ = σ) ∧ (¬ a1 < a0 → x = a0 ∧ τ = σ)) : R_J9_min_7cf53 a0 a1 σ x τ := by
  refine x_run [some (.int a0), some (.int a1)] (by decide +kernel) rfl (Nat.le_of_ble_eq_true rfl) ?_
  refine x_iload_n (pc := 0) 0 dJ9_min_7cf53_0 rfl rfl ?_
  refine x_iload_n (pc := 1) 1 dJ9_min_7cf53_1 rfl rfl ?_
  refine x_icmp_gt (pc := 2) 9 dJ9_min_7cf53_2 (by decide) (fun c1 => ?_) (fun c1 => ?_)
  · replace h := h.1 c1
    refine x_iload_n (pc := 9) 1 dJ9_min_7cf53_9 rfl rfl ?_
    exact x_ireturn2 (pc := 10) dJ9_min_7cf53_10 rfl h.1 h.2
  · replace h := h.2 c1
    refine x_iload_n (pc := 5) 0 dJ9_min_7cf53_5 rfl rfl ?_
    refine x_goto (pc := 6) 10 dJ9_min_7cf53_6 (by decide) ?_
    exact x_ireturn2 (pc := 10) dJ9_min_7cf53_10 rfl h.1 h.2
theorem dX1_above_0 : decode cX1_above 0 = .ok (.iload_n 0, 1) := by decide +kernel
theorem dX1_above_1 : decode cX1_above 1 = .ok (.iload_n 1, 1) := by decide +kernel
theorem dX1_above_2 : decode cX1_above 2 = .ok (.iadd, 1) := by decide +kernel
theorem dX1_above_3 : decode cX1_above 3 = .ok (.bipush 12, 2) := by decide +kernel
theorem dX1_above_5 : decode cX1_above 5 = .ok (.irem, 1) := by decide +kernel
theorem dX1_above_6 : decode cX1_above 6 = .ok (.ireturn, 1) := by decide +kernel
def R_X1_above (a0 : Int32) (a1 : Int32) (σ : kS) (x : Int32) (τ : kS) : Prop := Run SX jX1_above [(.int a0), (.int a1)] σ (some (.int x)) τ
set_option maxRecDepth 20000 in
theorem t_X1_above {a0 : Int32} {a1 : Int32} {σ : kS} {x : Int32} {τ : kS}  (h : x = ((a0 + a1) - (a0 + a1) / (12 : Int32) * (12 : Int32)) ∧ τ = σ) : R_X1_above a0 a1 σ x τ := by
  refine x_run [some (.int a0), some (.int a1)] (by decide +kernel) rfl (Nat.le_of_ble_eq_true rfl) ?_
  refine x_iload_n (pc := 0) 0 dX1_above_0 rfl rfl ?_
  refine x_iload_n (pc := 1) 1 dX1_above_1 rfl rfl ?_
  refine x_iadd (pc := 2) dX1_above_2 ?_
  refine x_bipush (pc := 3) (12 : Int32) dX1_above_3 (by decide +kernel) ?_
  refine x_irem (pc := 5) dX1_above_5 (by decide) ?_
  exact x_ireturn2 (pc := 6) dX1_above_6 rfl h.1 h.2
theorem dX9_in_0 : decode cX9_in 0 = .ok (.iload_n 0, 1) := by decide +kernel
theorem dX9_in_1 : decode cX9_in 1 = .ok (.iload_n 1, 1) := by decide +kernel
theorem dX9_in_2 : decode cX9_in 2 = .ok (.if_icmp .lt 12, 3) := by decide +kernel
theorem dX9_in_5 : decode cX9_in 5 = .ok (.iload_n 0, 1) := by decide +kernel
theorem dX9_in_6 : decode cX9_in 6 = .ok (.iload_n 2, 1) := by decide +kernel
theorem dX9_in_7 : decode cX9_in 7 = .ok (.if_icmp .gt 7, 3) := by decide +kernel
theorem dX9_in_10 : decode cX9_in 10 = .ok (.iconst 1, 1) := by decide +kernel
theorem dX9_in_11 : decode cX9_in 11 = .ok (.goto 4, 3) := by decide +kernel
theorem dX9_in_14 : decode cX9_in 14 = .ok (.iconst 0, 1) := by decide +kernel
theorem dX9_in_15 : decode cX9_in 15 = .ok (.ireturn, 1) := by decide +kernel
def R_X9_in (a0 : Int32) (a1 : Int32) (a2 : Int32) (σ : kS) (x : Int32) (τ : kS) : Prop := Run SM jX9_in [(.int a0), (.int a1), (.int a2)] σ (some (.int x)) τ
set_option maxRecDepth 20000 in
theorem t_X9_in {a0 : Int32} {a1 : Int32} {a2 : Int32} {σ : kS} {x : Int32} {τ : kS}  (h : (a0 < a1 → x = (0 : Int32) ∧ τ = σ) ∧ (¬ a0 < a1 → (a2 < a0 → x = (0 : Int32) ∧ τ = σ) ∧ (¬ a2 < a0 → x = (1 : Int32) ∧ τ = σ))) : R_X9_in a0 a1 a2 σ x τ := by
  refine x_run [some (.int a0), some (.int a1), some (.int a2)] (by decide +kernel) rfl (Nat.le_of_ble_eq_true rfl) ?_
  refine x_iload_n (pc := 0) 0 dX9_in_0 rfl rfl ?_
  refine x_iload_n (pc := 1) 1 dX9_in_1 rfl rfl ?_
  refine x_icmp_lt (pc := 2) 14 dX9_in_2 (by decide) (fun c1 => ?_) (fun c1 => ?_)
  · replace h := h.1 c1
    refine x_iconst (pc := 14) (0 : Int32) dX9_in_14 (by decide +kernel) ?_
    exact x_zreturn2 (pc := 15) dX9_in_15 rfl rfl h.1 h.2
  · replace h := h.2 c1
    refine x_iload_n (pc := 5) 0 dX9_in_5 rfl rfl ?_
    refine x_iload_n (pc := 6) 2 dX9_in_6 rfl rfl ?_
    refine x_icmp_gt (pc := 7) 14 dX9_in_7 (by decide) (fun c2 => ?_) (fun c2 => ?_)
    · replace h := h.1 c2
      refine x_iconst (pc := 14) (0 : Int32) dX9_in_14 (by decide +kernel) ?_
      exact x_zreturn2 (pc := 15) dX9_in_15 rfl rfl h.1 h.2
    · replace h := h.2 c2
      refine x_iconst (pc := 10) (1 : Int32) dX9_in_10 (by decide +kernel) ?_
      refine x_goto (pc := 11) 15 dX9_in_11 (by decide) ?_
      exact x_zreturn2 (pc := 15) dX9_in_15 rfl rfl h.1 h.2
theorem dX9_has_0 : decode cX9_has 0 = .ok (.iload_n 0, 1) := by decide +kernel
theorem dX9_has_1 : decode cX9_has 1 = .ok (.iload_n 1, 1) := by decide +kernel
theorem dX9_has_2 : decode cX9_has 2 = .ok (.ishr, 1) := by decide +kernel
theorem dX9_has_3 : decode cX9_has 3 = .ok (.iconst 1, 1) := by decide +kernel
theorem dX9_has_4 : decode cX9_has 4 = .ok (.iand, 1) := by decide +kernel
theorem dX9_has_5 : decode cX9_has 5 = .ok (.iconst 1, 1) := by decide +kernel
theorem dX9_has_6 : decode cX9_has 6 = .ok (.if_icmp .ne 7, 3) := by decide +kernel
theorem dX9_has_9 : decode cX9_has 9 = .ok (.iconst 1, 1) := by decide +kernel
theorem dX9_has_10 : decode cX9_has 10 = .ok (.goto 4, 3) := by decide +kernel
theorem dX9_has_13 : decode cX9_has 13 = .ok (.iconst 0, 1) := by decide +kernel
theorem dX9_has_14 : decode cX9_has 14 = .ok (.ireturn, 1) := by decide +kernel
def R_X9_has (a0 : Int32) (a1 : Int32) (σ : kS) (x : Int32) (τ : kS) : Prop := Run SM jX9_has [(.int a0), (.int a1)] σ (some (.int x)) τ
set_option maxRecDepth 20000 in
theorem t_X9_has {a0 : Int32} {a1 : Int32} {σ : kS} {x : Int32} {τ : kS}  (h : (¬ ((a0 >>> (a1 &&& 31)) &&& (1 : Int32)) = (1 : Int32) → x = (0 : Int32) ∧ τ = σ) ∧ (((a0 >>> (a1 &&& 31)) &&& (1 : Int32)) = (1 : Int32) → x = (1 : Int32) ∧ τ = σ)) : R_X9_has a0 a1 σ x τ := by
  refine x_run [some (.int a0), some (.int a1)] (by decide +kernel) rfl (Nat.le_of_ble_eq_true rfl) ?_
  refine x_iload_n (pc := 0) 0 dX9_has_0 rfl rfl ?_
  refine x_iload_n (pc := 1) 1 dX9_has_1 rfl rfl ?_
  refine x_ishr (pc := 2) dX9_has_2 ?_
  refine x_iconst (pc := 3) (1 : Int32) dX9_has_3 (by decide +kernel) ?_
  refine x_iand (pc := 4) dX9_has_4 ?_
  refine x_iconst (pc := 5) (1 : Int32) dX9_has_5 (by decide +kernel) ?_
  refine x_icmp_ne (pc := 6) 13 dX9_has_6 (by decide) (fun c1 => ?_) (fun c1 => ?_)
  · replace h := h.1 c1
    refine x_iconst (pc := 13) (0 : Int32) dX9_has_13 (by decide +kernel) ?_
    exact x_zreturn2 (pc := 14) dX9_has_14 rfl rfl h.1 h.2
  · replace h := h.2 c1
    refine x_iconst (pc := 9) (1 : Int32) dX9_has_9 (by decide +kernel) ?_
    refine x_goto (pc := 10) 14 dX9_has_10 (by decide) ?_
    exact x_zreturn2 (pc := 14) dX9_has_14 rfl rfl h.1 h.2
theorem dX9_isThere_0 : decode cX9_isThere 0 = .ok (.aload_n 0, 1) := by decide +kernel
theorem dX9_isThere_1 : decode cX9_isThere 1 = .ok (.getfield 23, 3) := by decide +kernel
theorem dX9_isThere_4 : decode cX9_isThere 4 = .ok (.iconst 1, 1) := by decide +kernel
theorem dX9_isThere_5 : decode cX9_isThere 5 = .ok (.iaload, 1) := by decide +kernel
theorem dX9_isThere_6 : decode cX9_isThere 6 = .ok (.ifCond .le 7, 3) := by decide +kernel
theorem dX9_isThere_9 : decode cX9_isThere 9 = .ok (.iconst 1, 1) := by decide +kernel
theorem dX9_isThere_10 : decode cX9_isThere 10 = .ok (.goto 4, 3) := by decide +kernel
theorem dX9_isThere_13 : decode cX9_isThere 13 = .ok (.iconst 0, 1) := by decide +kernel
theorem dX9_isThere_14 : decode cX9_isThere 14 = .ok (.ireturn, 1) := by decide +kernel
def R_X9_isThere  (σ : kS) (x : Int32) (τ : kS) : Prop := Run SM jX9_isThere [(.ref 0)] σ (some (.int x)) τ
set_option maxRecDepth 20000 in
theorem t_X9_isThere  {σ : kS} {x : Int32} {τ : kS}  (h : ((σ.1 5 1) ≤ 0 → x = (0 : Int32) ∧ τ = σ) ∧ (¬ (σ.1 5 1) ≤ 0 → x = (1 : Int32) ∧ τ = σ)) : R_X9_isThere  σ x τ := by
  refine x_run [some (.ref 0)] (by decide +kernel) rfl (Nat.le_of_ble_eq_true rfl) ?_
  refine x_aload_n (pc := 0) 0 dX9_isThere_0 rfl rfl ?_
  refine x_getR (pc := 1) dX9_isThere_1 fX9_23 rfl rfl ?_
  refine x_iconst (pc := 4) (1 : Int32) dX9_isThere_4 (by decide +kernel) ?_
  refine x_ialoadK (pc := 5) (n := 38) 1 dX9_isThere_5 rfl (by decide) (by decide +kernel) ?_
  refine x_if_le (pc := 6) 13 dX9_isThere_6 (by decide) (fun c1 => ?_) (fun c1 => ?_)
  · replace h := h.1 c1
    refine x_iconst (pc := 13) (0 : Int32) dX9_isThere_13 (by decide +kernel) ?_
    exact x_zreturn2 (pc := 14) dX9_isThere_14 rfl rfl h.1 h.2
  · replace h := h.2 c1
    refine x_iconst (pc := 9) (1 : Int32) dX9_isThere_9 (by decide +kernel) ?_
    refine x_goto (pc := 10) 14 dX9_isThere_10 (by decide) ?_
    exact x_zreturn2 (pc := 14) dX9_isThere_14 rfl rfl h.1 h.2
theorem dX9_isPart_0 : decode cX9_isPart 0 = .ok (.iload_n 1, 1) := by decide +kernel
theorem dX9_isPart_1 : decode cX9_isPart 1 = .ok (.ifCond .lt 23, 3) := by decide +kernel
theorem dX9_isPart_4 : decode cX9_isPart 4 = .ok (.iload_n 0, 1) := by decide +kernel
theorem dX9_isPart_5 : decode cX9_isPart 5 = .ok (.ifCond .lt 19, 3) := by decide +kernel
theorem dX9_isPart_8 : decode cX9_isPart 8 = .ok (.iload_n 1, 1) := by decide +kernel
theorem dX9_isPart_9 : decode cX9_isPart 9 = .ok (.iload_n 2, 1) := by decide +kernel
theorem dX9_isPart_10 : decode cX9_isPart 10 = .ok (.if_icmp .gt 14, 3) := by decide +kernel
theorem dX9_isPart_13 : decode cX9_isPart 13 = .ok (.iload_n 0, 1) := by decide +kernel
theorem dX9_isPart_14 : decode cX9_isPart 14 = .ok (.iload_n 2, 1) := by decide +kernel
theorem dX9_isPart_15 : decode cX9_isPart 15 = .ok (.iload_n 1, 1) := by decide +kernel
theorem dX9_isPart_16 : decode cX9_isPart 16 = .ok (.isub, 1) := by decide +kernel
theorem dX9_isPart_17 : decode cX9_isPart 17 = .ok (.if_icmp .gt 7, 3) := by decide +kernel
theorem dX9_isPart_20 : decode cX9_isPart 20 = .ok (.iconst 1, 1) := by decide +kernel
theorem dX9_isPart_21 : decode cX9_isPart 21 = .ok (.goto 4, 3) := by decide +kernel
theorem dX9_isPart_24 : decode cX9_isPart 24 = .ok (.iconst 0, 1) := by decide +kernel
theorem dX9_isPart_25 : decode cX9_isPart 25 = .ok (.ireturn, 1) := by decide +kernel
def R_X9_isPart (a0 : Int32) (a1 : Int32) (a2 : Int32) (σ : kS) (x : Int32) (τ : kS) : Prop := Run SM jX9_isPart [(.int a0), (.int a1), (.int a2)] σ (some (.int x)) τ
set_option maxRecDepth 20000 in
theorem t_X9_isPart {a0 : Int32} {a1 : Int32} {a2 : Int32} {σ : kS} {x : Int32} {τ : kS}  (h : (a1 < 0 → x = (0 : Int32) ∧ τ = σ) ∧ (¬ a1 < 0 → (a0 < 0 → x = (0 : Int32) ∧ τ = σ) ∧ (¬ a0 < 0 → (a2 < a1 → x = (0 : Int32) ∧ τ = σ) ∧ (¬ a2 < a1 → ((a2 - a1) < a0 → x = (0 : Int32) ∧ τ = σ) ∧ (¬ (a2 - a1) < a0 → x = (1 : Int32) ∧ τ = σ))))) : R_X9_isPart a0 a1 a2 σ x τ := by
  refine x_run [some (.int a0), some (.int a1), some (.int a2)] (by decide +kernel) rfl (Nat.le_of_ble_eq_true rfl) ?_
  refine x_iload_n (pc := 0) 1 dX9_isPart_0 rfl rfl ?_
  refine x_if_lt (pc := 1) 24 dX9_isPart_1 (by decide) (fun c1 => ?_) (fun c1 => ?_)
  · replace h := h.1 c1
    refine x_iconst (pc := 24) (0 : Int32) dX9_isPart_24 (by decide +kernel) ?_
    exact x_zreturn2 (pc := 25) dX9_isPart_25 rfl rfl h.1 h.2
  · replace h := h.2 c1
    refine x_iload_n (pc := 4) 0 dX9_isPart_4 rfl rfl ?_
    refine x_if_lt (pc := 5) 24 dX9_isPart_5 (by decide) (fun c2 => ?_) (fun c2 => ?_)
    · replace h := h.1 c2
      refine x_iconst (pc := 24) (0 : Int32) dX9_isPart_24 (by decide +kernel) ?_
      exact x_zreturn2 (pc := 25) dX9_isPart_25 rfl rfl h.1 h.2
    · replace h := h.2 c2
      refine x_iload_n (pc := 8) 1 dX9_isPart_8 rfl rfl ?_
      refine x_iload_n (pc := 9) 2 dX9_isPart_9 rfl rfl ?_
      refine x_icmp_gt (pc := 10) 24 dX9_isPart_10 (by decide) (fun c3 => ?_) (fun c3 => ?_)
      · replace h := h.1 c3
        refine x_iconst (pc := 24) (0 : Int32) dX9_isPart_24 (by decide +kernel) ?_
        exact x_zreturn2 (pc := 25) dX9_isPart_25 rfl rfl h.1 h.2
      · replace h := h.2 c3
        refine x_iload_n (pc := 13) 0 dX9_isPart_13 rfl rfl ?_
        refine x_iload_n (pc := 14) 2 dX9_isPart_14 rfl rfl ?_
        refine x_iload_n (pc := 15) 1 dX9_isPart_15 rfl rfl ?_
        refine x_isub (pc := 16) dX9_isPart_16 ?_
        refine x_icmp_gt (pc := 17) 24 dX9_isPart_17 (by decide) (fun c4 => ?_) (fun c4 => ?_)
        · replace h := h.1 c4
          refine x_iconst (pc := 24) (0 : Int32) dX9_isPart_24 (by decide +kernel) ?_
          exact x_zreturn2 (pc := 25) dX9_isPart_25 rfl rfl h.1 h.2
        · replace h := h.2 c4
          refine x_iconst (pc := 20) (1 : Int32) dX9_isPart_20 (by decide +kernel) ?_
          refine x_goto (pc := 21) 25 dX9_isPart_21 (by decide) ?_
          exact x_zreturn2 (pc := 25) dX9_isPart_25 rfl rfl h.1 h.2
theorem dX9_chordOn_0 : decode cX9_chordOn 0 = .ok (.iload_n 0, 1) := by decide +kernel
theorem dX9_chordOn_1 : decode cX9_chordOn 1 = .ok (.iload_n 1, 1) := by decide +kernel
theorem dX9_chordOn_2 : decode cX9_chordOn 2 = .ok (.ishl, 1) := by decide +kernel
theorem dX9_chordOn_3 : decode cX9_chordOn 3 = .ok (.istore_n 2, 1) := by decide +kernel
theorem dX9_chordOn_4 : decode cX9_chordOn 4 = .ok (.iload_n 2, 1) := by decide +kernel
theorem dX9_chordOn_5 : decode cX9_chordOn 5 = .ok (.iload_n 2, 1) := by decide +kernel
theorem dX9_chordOn_6 : decode cX9_chordOn 6 = .ok (.bipush 12, 2) := by decide +kernel
theorem dX9_chordOn_8 : decode cX9_chordOn 8 = .ok (.ishr, 1) := by decide +kernel
theorem dX9_chordOn_9 : decode cX9_chordOn 9 = .ok (.ior, 1) := by decide +kernel
theorem dX9_chordOn_10 : decode cX9_chordOn 10 = .ok (.sipush 4095, 3) := by decide +kernel
theorem dX9_chordOn_13 : decode cX9_chordOn 13 = .ok (.iand, 1) := by decide +kernel
theorem dX9_chordOn_14 : decode cX9_chordOn 14 = .ok (.ireturn, 1) := by decide +kernel
def R_X9_chordOn (a0 : Int32) (a1 : Int32) (σ : kS) (x : Int32) (τ : kS) : Prop := Run SM jX9_chordOn [(.int a0), (.int a1)] σ (some (.int x)) τ
set_option maxRecDepth 20000 in
theorem t_X9_chordOn {a0 : Int32} {a1 : Int32} {σ : kS} {x : Int32} {τ : kS}  (h : x = (((a0 <<< (a1 &&& 31)) ||| ((a0 <<< (a1 &&& 31)) >>> ((12 : Int32) &&& 31))) &&& (4095 : Int32)) ∧ τ = σ) : R_X9_chordOn a0 a1 σ x τ := by
  refine x_run [some (.int a0), some (.int a1), none] (by decide +kernel) rfl (Nat.le_of_ble_eq_true rfl) ?_
  refine x_iload_n (pc := 0) 0 dX9_chordOn_0 rfl rfl ?_
  refine x_iload_n (pc := 1) 1 dX9_chordOn_1 rfl rfl ?_
  refine x_ishl (pc := 2) dX9_chordOn_2 ?_
  refine x_istore_n (pc := 3) 2 dX9_chordOn_3 rfl (by decide) rfl ?_
  refine x_iload_n (pc := 4) 2 dX9_chordOn_4 rfl rfl ?_
  refine x_iload_n (pc := 5) 2 dX9_chordOn_5 rfl rfl ?_
  refine x_bipush (pc := 6) (12 : Int32) dX9_chordOn_6 (by decide +kernel) ?_
  refine x_ishr (pc := 8) dX9_chordOn_8 ?_
  refine x_ior (pc := 9) dX9_chordOn_9 ?_
  refine x_sipush (pc := 10) (4095 : Int32) dX9_chordOn_10 (by decide +kernel) ?_
  refine x_iand (pc := 13) dX9_chordOn_13 ?_
  exact x_ireturn2 (pc := 14) dX9_chordOn_14 rfl h.1 h.2
