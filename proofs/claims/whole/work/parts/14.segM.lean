/-! printed by wip/gen: stretches of the bytecode -/
theorem dX9_bits_0 : decode cX9_bits 0 = .ok (.iconst 0, 1) := by decide +kernel
theorem dX9_bits_1 : decode cX9_bits 1 = .ok (.istore_n 1, 1) := by decide +kernel
theorem dX9_bits_2 : decode cX9_bits 2 = .ok (.iconst 0, 1) := by decide +kernel
theorem dX9_bits_3 : decode cX9_bits 3 = .ok (.istore_n 2, 1) := by decide +kernel
theorem dX9_bits_4 : decode cX9_bits 4 = .ok (.iload_n 2, 1) := by decide +kernel
theorem dX9_bits_5 : decode cX9_bits 5 = .ok (.bipush 12, 2) := by decide +kernel
theorem dX9_bits_7 : decode cX9_bits 7 = .ok (.if_icmp .ge 17, 3) := by decide +kernel
theorem dX9_bits_10 : decode cX9_bits 10 = .ok (.iload_n 1, 1) := by decide +kernel
theorem dX9_bits_11 : decode cX9_bits 11 = .ok (.iload_n 0, 1) := by decide +kernel
theorem dX9_bits_12 : decode cX9_bits 12 = .ok (.iload_n 2, 1) := by decide +kernel
theorem dX9_bits_13 : decode cX9_bits 13 = .ok (.ishr, 1) := by decide +kernel
theorem dX9_bits_14 : decode cX9_bits 14 = .ok (.iconst 1, 1) := by decide +kernel
theorem dX9_bits_15 : decode cX9_bits 15 = .ok (.iand, 1) := by decide +kernel
theorem dX9_bits_16 : decode cX9_bits 16 = .ok (.iadd, 1) := by decide +kernel
theorem dX9_bits_17 : decode cX9_bits 17 = .ok (.istore_n 1, 1) := by decide +kernel
theorem dX9_bits_18 : decode cX9_bits 18 = .ok (.iinc 2 1, 3) := by decide +kernel
theorem dX9_bits_21 : decode cX9_bits 21 = .ok (.goto (-17), 3) := by decide +kernel
theorem dX9_bits_24 : decode cX9_bits 24 = .ok (.iload_n 1, 1) := by decide +kernel
theorem dX9_bits_25 : decode cX9_bits 25 = .ok (.ireturn, 1) := by decide +kernel
def R_X9_bits (a0 : Int32) (σ : kS) (x : Int32) (τ : kS) : Prop := Run SM jX9_bits [(.int a0)] σ (some (.int x)) τ
def E_X9_bits_4 (l0 : Int32) (l1 : Int32) (l2 : Int32) (σ : kS) (x : Int32) (τ : kS) : Prop := Ex SM jX9_bits 4 [some (.int l0), some (.int l1), some (.int l2)] [] σ (some (.int x)) τ
set_option maxRecDepth 20000 in
theorem t_X9_bits {a0 : Int32} {σ : kS} {x : Int32} {τ : kS}  (h : E_X9_bits_4 a0 (0 : Int32) (0 : Int32) σ x τ) : R_X9_bits a0 σ x τ := by
  refine x_run [some (.int a0), none, none] (by decide +kernel) rfl (Nat.le_of_ble_eq_true rfl) ?_
  refine x_iconst (pc := 0) (0 : Int32) dX9_bits_0 (by decide +kernel) ?_
  refine x_istore_n (pc := 1) 1 dX9_bits_1 rfl (by decide) rfl ?_
  refine x_iconst (pc := 2) (0 : Int32) dX9_bits_2 (by decide +kernel) ?_
  refine x_istore_n (pc := 3) 2 dX9_bits_3 rfl (by decide) rfl ?_
  exact h
set_option maxRecDepth 20000 in
theorem t_X9_bits_4 {l0 : Int32} {l1 : Int32} {l2 : Int32} {σ : kS} {x : Int32} {τ : kS}  (h : ((12 : Int32) ≤ l2 → x = l1 ∧ τ = σ) ∧ (¬ (12 : Int32) ≤ l2 → E_X9_bits_4 l0 (l1 + ((l0 >>> (l2 &&& 31)) &&& (1 : Int32))) (l2 + (1 : Int32)) σ x τ)) : E_X9_bits_4 l0 l1 l2 σ x τ := by
  unfold E_X9_bits_4
  refine x_iload_n (pc := 4) 2 dX9_bits_4 rfl rfl ?_
  refine x_bipush (pc := 5) (12 : Int32) dX9_bits_5 (by decide +kernel) ?_
  refine x_icmp_ge (pc := 7) 24 dX9_bits_7 (by decide) (fun c1 => ?_) (fun c1 => ?_)
  · replace h := h.1 c1
    refine x_iload_n (pc := 24) 1 dX9_bits_24 rfl rfl ?_
    exact x_ireturn2 (pc := 25) dX9_bits_25 rfl h.1 h.2
  · replace h := h.2 c1
    refine x_iload_n (pc := 10) 1 dX9_bits_10 rfl rfl ?_
    refine x_iload_n (pc := 11) 0 dX9_bits_11 rfl rfl ?_
    refine x_iload_n (pc := 12) 2 dX9_bits_12 rfl rfl ?_
    refine x_ishr (pc := 13) dX9_bits_13 ?_
    refine x_iconst (pc := 14) (1 : Int32) dX9_bits_14 (by decide +kernel) ?_
    refine x_iand (pc := 15) dX9_bits_15 ?_
    refine x_iadd (pc := 16) dX9_bits_16 ?_
    refine x_istore_n (pc := 17) 1 dX9_bits_17 rfl (by decide) rfl ?_
    refine x_iinc (pc := 18) (1 : Int32) dX9_bits_18 (by decide) rfl rfl (by decide +kernel) ?_
    refine x_goto (pc := 21) 4 dX9_bits_21 (by decide) ?_
    exact h
theorem dX9_bring_0 : decode cX9_bring 0 = .ok (.iconst 0, 1) := by decide +kernel
theorem dX9_bring_1 : decode cX9_bring 1 = .ok (.istore 5, 2) := by decide +kernel
theorem dX9_bring_3 : decode cX9_bring 3 = .ok (.iload 5, 2) := by decide +kernel
theorem dX9_bring_5 : decode cX9_bring 5 = .ok (.iload 4, 2) := by decide +kernel
theorem dX9_bring_7 : decode cX9_bring 7 = .ok (.if_icmp .ge 21, 3) := by decide +kernel
theorem dX9_bring_10 : decode cX9_bring 10 = .ok (.aload_n 2, 1) := by decide +kernel
theorem dX9_bring_11 : decode cX9_bring 11 = .ok (.iload_n 3, 1) := by decide +kernel
theorem dX9_bring_12 : decode cX9_bring 12 = .ok (.iload 5, 2) := by decide +kernel
theorem dX9_bring_14 : decode cX9_bring 14 = .ok (.iadd, 1) := by decide +kernel
theorem dX9_bring_15 : decode cX9_bring 15 = .ok (.aload_n 0, 1) := by decide +kernel
theorem dX9_bring_16 : decode cX9_bring 16 = .ok (.iload_n 1, 1) := by decide +kernel
theorem dX9_bring_17 : decode cX9_bring 17 = .ok (.iload 5, 2) := by decide +kernel
theorem dX9_bring_19 : decode cX9_bring 19 = .ok (.iadd, 1) := by decide +kernel
theorem dX9_bring_20 : decode cX9_bring 20 = .ok (.iaload, 1) := by decide +kernel
theorem dX9_bring_21 : decode cX9_bring 21 = .ok (.iastore, 1) := by decide +kernel
theorem dX9_bring_22 : decode cX9_bring 22 = .ok (.iinc 5 1, 3) := by decide +kernel
theorem dX9_bring_25 : decode cX9_bring 25 = .ok (.goto (-22), 3) := by decide +kernel
theorem dX9_bring_28 : decode cX9_bring 28 = .ok (.return_, 1) := by decide +kernel
def R_X9_bring (r0 : Nat) (n0 : Nat) (a1 : Int32) (r2 : Nat) (n2 : Nat) (a3 : Int32) (a4 : Int32) (σ : kS) (τ : kS) : Prop := Run SM jX9_bring [(.ref r0), (.int a1), (.ref r2), (.int a3), (.int a4)] σ none τ
def E_X9_bring_3 (r0 : Nat) (n0 : Nat) (r2 : Nat) (n2 : Nat) (l1 : Int32) (l3 : Int32) (l4 : Int32) (l5 : Int32) (σ : kS) (τ : kS) : Prop := Ex SM jX9_bring 3 [some (.ref r0), some (.int l1), some (.ref r2), some (.int l3), some (.int l4), some (.int l5)] [] σ none τ
set_option maxRecDepth 20000 in
theorem t_X9_bring {r0 : Nat} {n0 : Nat} {a1 : Int32} {r2 : Nat} {n2 : Nat} {a3 : Int32} {a4 : Int32} {σ : kS} {τ : kS} (hr0 : k_is SM r0 1 n0 = true) (hr2 : k_is SM r2 1 n2 = true) (h : E_X9_bring_3 r0 n0 r2 n2 a1 a3 a4 (0 : Int32) σ τ) : R_X9_bring r0 n0 a1 r2 n2 a3 a4 σ τ := by
  refine x_run [some (.ref r0), some (.int a1), some (.ref r2), some (.int a3), some (.int a4), none] (by decide +kernel) rfl (Nat.le_of_ble_eq_true rfl) ?_
  refine x_iconst (pc := 0) (0 : Int32) dX9_bring_0 (by decide +kernel) ?_
  refine x_istore (pc := 1) dX9_bring_1 (by decide) rfl ?_
  exact h
set_option maxRecDepth 20000 in
theorem t_X9_bring_3 {r0 : Nat} {n0 : Nat} {r2 : Nat} {n2 : Nat} {l1 : Int32} {l3 : Int32} {l4 : Int32} {l5 : Int32} {σ : kS} {τ : kS} (hr0 : k_is SM r0 1 n0 = true) (hr2 : k_is SM r2 1 n2 = true) (h : (l4 ≤ l5 → τ = σ) ∧ (¬ l4 ≤ l5 → vp_in (l1 + l5) n0 ∧ (vp_in (l3 + l5) n2 ∧ (E_X9_bring_3 r0 n0 r2 n2 l1 l3 l4 (l5 + (1 : Int32)) (k_si σ r2 (l3 + l5).toNatClampNeg (σ.1 r0 (l1 + l5).toNatClampNeg)) τ)))) : E_X9_bring_3 r0 n0 r2 n2 l1 l3 l4 l5 σ τ := by
  unfold E_X9_bring_3
  refine x_iload (pc := 3) dX9_bring_3 rfl ?_
  refine x_iload (pc := 5) dX9_bring_5 rfl ?_
  refine x_icmp_ge (pc := 7) 28 dX9_bring_7 (by decide) (fun c1 => ?_) (fun c1 => ?_)
  · replace h := h.1 c1
    exact x_return2 (pc := 28) dX9_bring_28 rfl h
  · replace h := h.2 c1
    refine x_aload_n (pc := 10) 2 dX9_bring_10 rfl rfl ?_
    refine x_iload_n (pc := 11) 3 dX9_bring_11 rfl rfl ?_
    refine x_iload (pc := 12) dX9_bring_12 rfl ?_
    refine x_iadd (pc := 14) dX9_bring_14 ?_
    refine x_aload_n (pc := 15) 0 dX9_bring_15 rfl rfl ?_
    refine x_iload_n (pc := 16) 1 dX9_bring_16 rfl rfl ?_
    refine x_iload (pc := 17) dX9_bring_17 rfl ?_
    refine x_iadd (pc := 19) dX9_bring_19 ?_
    obtain ⟨g2, h⟩ := h
    refine x_iaload (pc := 20) (n := n0) dX9_bring_20 hr0 g2 ?_
    obtain ⟨g3, h⟩ := h
    refine x_iastore (pc := 21) (n := n2) dX9_bring_21 hr2 g3 ?_
    refine x_iinc (pc := 22) (1 : Int32) dX9_bring_22 (by decide) rfl rfl (by decide +kernel) ?_
    refine x_goto (pc := 25) 3 dX9_bring_25 (by decide) ?_
    exact h
theorem dX9_feed_0 : decode cX9_feed 0 = .ok (.iload_n 1, 1) := by decide +kernel
theorem dX9_feed_1 : decode cX9_feed 1 = .ok (.iconst 0, 1) := by decide +kernel
theorem dX9_feed_2 : decode cX9_feed 2 = .ok (.sipush 255, 3) := by decide +kernel
theorem dX9_feed_5 : decode cX9_feed 5 = .ok (.invokestatic 54, 3) := by decide +kernel
theorem dX9_feed_8 : decode cX9_feed 8 = .ok (.ifCond .ne 5, 3) := by decide +kernel
theorem dX9_feed_11 : decode cX9_feed 11 = .ok (.iconst (-1), 1) := by decide +kernel
theorem dX9_feed_12 : decode cX9_feed 12 = .ok (.ireturn, 1) := by decide +kernel
theorem dX9_feed_13 : decode cX9_feed 13 = .ok (.aload_n 0, 1) := by decide +kernel
theorem dX9_feed_14 : decode cX9_feed 14 = .ok (.getfield 58, 3) := by decide +kernel
theorem dX9_feed_17 : decode cX9_feed 17 = .ok (.sipush 130, 3) := by decide +kernel
theorem dX9_feed_20 : decode cX9_feed 20 = .ok (.if_icmp .ne 6, 3) := by decide +kernel
theorem dX9_feed_23 : decode cX9_feed 23 = .ok (.bipush (-3), 2) := by decide +kernel
theorem dX9_feed_25 : decode cX9_feed 25 = .ok (.ireturn, 1) := by decide +kernel
theorem dX9_feed_26 : decode cX9_feed 26 = .ok (.aload_n 0, 1) := by decide +kernel
theorem dX9_feed_27 : decode cX9_feed 27 = .ok (.getfield 20, 3) := by decide +kernel
theorem dX9_feed_30 : decode cX9_feed 30 = .ok (.aload_n 0, 1) := by decide +kernel
theorem dX9_feed_31 : decode cX9_feed 31 = .ok (.getfield 58, 3) := by decide +kernel
theorem dX9_feed_34 : decode cX9_feed 34 = .ok (.iload_n 1, 1) := by decide +kernel
theorem dX9_feed_35 : decode cX9_feed 35 = .ok (.iastore, 1) := by decide +kernel
theorem dX9_feed_36 : decode cX9_feed 36 = .ok (.aload_n 0, 1) := by decide +kernel
theorem dX9_feed_37 : decode cX9_feed 37 = .ok (.dup, 1) := by decide +kernel
theorem dX9_feed_38 : decode cX9_feed 38 = .ok (.getfield 58, 3) := by decide +kernel
theorem dX9_feed_41 : decode cX9_feed 41 = .ok (.iconst 1, 1) := by decide +kernel
theorem dX9_feed_42 : decode cX9_feed 42 = .ok (.iadd, 1) := by decide +kernel
theorem dX9_feed_43 : decode cX9_feed 43 = .ok (.putfield 58, 3) := by decide +kernel
theorem dX9_feed_46 : decode cX9_feed 46 = .ok (.aload_n 0, 1) := by decide +kernel
theorem dX9_feed_47 : decode cX9_feed 47 = .ok (.getfield 58, 3) := by decide +kernel
theorem dX9_feed_50 : decode cX9_feed 50 = .ok (.ireturn, 1) := by decide +kernel
def R_X9_feed (a1 : Int32) (σ : kS) (x : Int32) (τ : kS) : Prop := Run SM jX9_feed [(.ref 0), (.int a1)] σ (some (.int x)) τ
set_option maxRecDepth 20000 in
theorem t_X9_feed {a1 : Int32} {σ : kS} {x : Int32} {τ : kS}  (h : ((iv a1 (0 : Int32) (255 : Int32)) → (¬ (σ.1 0 3) = (130 : Int32) → vp_in (σ.1 0 3) 130 ∧ (x = ((σ.1 0 3) + (1 : Int32)) ∧ τ = (k_si (k_si σ 4 (σ.1 0 3).toNatClampNeg a1) 0 3 ((σ.1 0 3) + (1 : Int32))))) ∧ ((σ.1 0 3) = (130 : Int32) → x = (-3 : Int32) ∧ τ = σ)) ∧ (¬ (iv a1 (0 : Int32) (255 : Int32)) → x = (-1 : Int32) ∧ τ = σ)) : R_X9_feed a1 σ x τ := by
  refine x_run [some (.ref 0), some (.int a1)] (by decide +kernel) rfl (Nat.le_of_ble_eq_true rfl) ?_
  refine x_iload_n (pc := 0) 1 dX9_feed_0 rfl rfl ?_
  refine x_iconst (pc := 1) (0 : Int32) dX9_feed_1 (by decide +kernel) ?_
  refine x_sipush (pc := 2) (255 : Int32) dX9_feed_2 (by decide +kernel) ?_
  refine x_callS (pc := 5) [(.int a1), (.int (0 : Int32)), (.int (255 : Int32))] [] dX9_feed_5 ⟨⟨hX9_in.1, hX9_in.2.1, hX9_in.2.2, by decide⟩, mX9_54, sX9_in⟩ rfl rfl (Nat.le_of_ble_eq_true rfl) (i_X9_in) ?_
  refine x_bif_ne (pc := 8) 13 dX9_feed_8 (by decide) (fun c1 => ?_) (fun c1 => ?_)
  · replace h := h.1 c1
    refine x_aload_n (pc := 13) 0 dX9_feed_13 rfl rfl ?_
    refine x_getI (pc := 14) dX9_feed_14 fX9_58 rfl rfl ?_
    refine x_sipush (pc := 17) (130 : Int32) dX9_feed_17 (by decide +kernel) ?_
    refine x_icmp_ne (pc := 20) 26 dX9_feed_20 (by decide) (fun c2 => ?_) (fun c2 => ?_)
    · replace h := h.1 c2
      refine x_aload_n (pc := 26) 0 dX9_feed_26 rfl rfl ?_
      refine x_getR (pc := 27) dX9_feed_27 fX9_20 rfl rfl ?_
      refine x_aload_n (pc := 30) 0 dX9_feed_30 rfl rfl ?_
      refine x_getI (pc := 31) dX9_feed_31 fX9_58 rfl rfl ?_
      refine x_iload_n (pc := 34) 1 dX9_feed_34 rfl rfl ?_
      obtain ⟨g3, h⟩ := h
      refine x_iastore (pc := 35) (n := 130) dX9_feed_35 rfl g3 ?_
      refine x_aload_n (pc := 36) 0 dX9_feed_36 rfl rfl ?_
      refine x_dup (pc := 37) dX9_feed_37 rfl ?_
      refine x_getI (pc := 38) dX9_feed_38 fX9_58 rfl rfl ?_
      refine x_iconst (pc := 41) (1 : Int32) dX9_feed_41 (by decide +kernel) ?_
      refine x_iadd (pc := 42) dX9_feed_42 ?_
      refine x_putI (pc := 43) dX9_feed_43 pX9_58 rfl rfl ?_
      refine x_aload_n (pc := 46) 0 dX9_feed_46 rfl rfl ?_
      refine x_getI (pc := 47) dX9_feed_47 fX9_58 rfl rfl ?_
      exact x_ireturn2 (pc := 50) dX9_feed_50 rfl h.1 h.2
    · replace h := h.2 c2
      refine x_bipush (pc := 23) (-3 : Int32) dX9_feed_23 (by decide +kernel) ?_
      exact x_ireturn2 (pc := 25) dX9_feed_25 rfl h.1 h.2
  · replace h := h.2 c1
    refine x_iconst (pc := 11) (-1 : Int32) dX9_feed_11 (by decide +kernel) ?_
    exact x_ireturn2 (pc := 12) dX9_feed_12 rfl h.1 h.2
theorem dX9_peek_0 : decode cX9_peek 0 = .ok (.aload_n 0, 1) := by decide +kernel
theorem dX9_peek_1 : decode cX9_peek 1 = .ok (.getfield 62, 3) := by decide +kernel
theorem dX9_peek_4 : decode cX9_peek 4 = .ok (.aload_n 0, 1) := by decide +kernel
theorem dX9_peek_5 : decode cX9_peek 5 = .ok (.getfield 58, 3) := by decide +kernel
theorem dX9_peek_8 : decode cX9_peek 8 = .ok (.if_icmp .ge 15, 3) := by decide +kernel
theorem dX9_peek_11 : decode cX9_peek 11 = .ok (.aload_n 0, 1) := by decide +kernel
theorem dX9_peek_12 : decode cX9_peek 12 = .ok (.getfield 20, 3) := by decide +kernel
theorem dX9_peek_15 : decode cX9_peek 15 = .ok (.aload_n 0, 1) := by decide +kernel
theorem dX9_peek_16 : decode cX9_peek 16 = .ok (.getfield 62, 3) := by decide +kernel
theorem dX9_peek_19 : decode cX9_peek 19 = .ok (.iaload, 1) := by decide +kernel
theorem dX9_peek_20 : decode cX9_peek 20 = .ok (.goto 4, 3) := by decide +kernel
theorem dX9_peek_23 : decode cX9_peek 23 = .ok (.iconst (-1), 1) := by decide +kernel
theorem dX9_peek_24 : decode cX9_peek 24 = .ok (.ireturn, 1) := by decide +kernel
def R_X9_peek  (σ : kS) (x : Int32) (τ : kS) : Prop := Run SM jX9_peek [(.ref 0)] σ (some (.int x)) τ
set_option maxRecDepth 20000 in
theorem t_X9_peek  {σ : kS} {x : Int32} {τ : kS}  (h : ((σ.1 0 3) ≤ (σ.1 0 5) → x = (-1 : Int32) ∧ τ = σ) ∧ (¬ (σ.1 0 3) ≤ (σ.1 0 5) → vp_in (σ.1 0 5) 130 ∧ (x = (σ.1 4 (σ.1 0 5).toNatClampNeg) ∧ τ = σ))) : R_X9_peek  σ x τ := by
  refine x_run [some (.ref 0)] (by decide +kernel) rfl (Nat.le_of_ble_eq_true rfl) ?_
  refine x_aload_n (pc := 0) 0 dX9_peek_0 rfl rfl ?_
  refine x_getI (pc := 1) dX9_peek_1 fX9_62 rfl rfl ?_
  refine x_aload_n (pc := 4) 0 dX9_peek_4 rfl rfl ?_
  refine x_getI (pc := 5) dX9_peek_5 fX9_58 rfl rfl ?_
  refine x_icmp_ge (pc := 8) 23 dX9_peek_8 (by decide) (fun c1 => ?_) (fun c1 => ?_)
  · replace h := h.1 c1
    refine x_iconst (pc := 23) (-1 : Int32) dX9_peek_23 (by decide +kernel) ?_
    exact x_ireturn2 (pc := 24) dX9_peek_24 rfl h.1 h.2
  · replace h := h.2 c1
    refine x_aload_n (pc := 11) 0 dX9_peek_11 rfl rfl ?_
    refine x_getR (pc := 12) dX9_peek_12 fX9_20 rfl rfl ?_
    refine x_aload_n (pc := 15) 0 dX9_peek_15 rfl rfl ?_
    refine x_getI (pc := 16) dX9_peek_16 fX9_62 rfl rfl ?_
    obtain ⟨g2, h⟩ := h
    refine x_iaload (pc := 19) (n := 130) dX9_peek_19 rfl g2 ?_
    refine x_goto (pc := 20) 24 dX9_peek_20 (by decide) ?_
    exact x_ireturn2 (pc := 24) dX9_peek_24 rfl h.1 h.2
theorem dX9_isSign_0 : decode cX9_isSign 0 = .ok (.aload_n 0, 1) := by decide +kernel
theorem dX9_isSign_1 : decode cX9_isSign 1 = .ok (.invokevirtual 65, 3) := by decide +kernel
theorem dX9_isSign_4 : decode cX9_isSign 4 = .ok (.iload_n 1, 1) := by decide +kernel
theorem dX9_isSign_5 : decode cX9_isSign 5 = .ok (.if_icmp .eq 5, 3) := by decide +kernel
theorem dX9_isSign_8 : decode cX9_isSign 8 = .ok (.iconst 0, 1) := by decide +kernel
theorem dX9_isSign_9 : decode cX9_isSign 9 = .ok (.ireturn, 1) := by decide +kernel
theorem dX9_isSign_10 : decode cX9_isSign 10 = .ok (.aload_n 0, 1) := by decide +kernel
theorem dX9_isSign_11 : decode cX9_isSign 11 = .ok (.dup, 1) := by decide +kernel
theorem dX9_isSign_12 : decode cX9_isSign 12 = .ok (.getfield 62, 3) := by decide +kernel
theorem dX9_isSign_15 : decode cX9_isSign 15 = .ok (.iconst 1, 1) := by decide +kernel
theorem dX9_isSign_16 : decode cX9_isSign 16 = .ok (.iadd, 1) := by decide +kernel
theorem dX9_isSign_17 : decode cX9_isSign 17 = .ok (.putfield 62, 3) := by decide +kernel
theorem dX9_isSign_20 : decode cX9_isSign 20 = .ok (.iconst 1, 1) := by decide +kernel
theorem dX9_isSign_21 : decode cX9_isSign 21 = .ok (.ireturn, 1) := by decide +kernel
def R_X9_isSign (a1 : Int32) (σ : kS) (x : Int32) (τ : kS) : Prop := Run SM jX9_isSign [(.ref 0), (.int a1)] σ (some (.int x)) τ
set_option maxRecDepth 20000 in
theorem t_X9_isSign {a1 : Int32} {σ : kS} {x : Int32} {τ : kS}  (h : ∃ (x2 : Int32) (s1 : kS), R_X9_peek  σ x2 s1 ∧ ((x2 = a1 → x = (1 : Int32) ∧ τ = (k_si s1 0 5 ((s1.1 0 5) + (1 : Int32)))) ∧ (¬ x2 = a1 → x = (0 : Int32) ∧ τ = s1))) : R_X9_isSign a1 σ x τ := by
  refine x_run [some (.ref 0), some (.int a1)] (by decide +kernel) rfl (Nat.le_of_ble_eq_true rfl) ?_
  refine x_aload_n (pc := 0) 0 dX9_isSign_0 rfl rfl ?_
  obtain ⟨x2, s1, hr, h⟩ := h
  refine x_callV (pc := 1) [] [] dX9_isSign_1 ⟨⟨hX9_peek.1, hX9_peek.2.1, hX9_peek.2.2, by decide⟩, mX9_65, vX9_peek.1, vX9_peek.2⟩ (ci := 9) rfl rfl rfl rfl (Nat.le_of_ble_eq_true rfl) hr ?_
  refine x_iload_n (pc := 4) 1 dX9_isSign_4 rfl rfl ?_
  refine x_icmp_eq (pc := 5) 10 dX9_isSign_5 (by decide) (fun c3 => ?_) (fun c3 => ?_)
  · replace h := h.1 c3
    refine x_aload_n (pc := 10) 0 dX9_isSign_10 rfl rfl ?_
    refine x_dup (pc := 11) dX9_isSign_11 rfl ?_
    refine x_getI (pc := 12) dX9_isSign_12 fX9_62 rfl rfl ?_
    refine x_iconst (pc := 15) (1 : Int32) dX9_isSign_15 (by decide +kernel) ?_
    refine x_iadd (pc := 16) dX9_isSign_16 ?_
    refine x_putI (pc := 17) dX9_isSign_17 pX9_62 rfl rfl ?_
    refine x_iconst (pc := 20) (1 : Int32) dX9_isSign_20 (by decide +kernel) ?_
    exact x_zreturn2 (pc := 21) dX9_isSign_21 rfl rfl h.1 h.2
  · replace h := h.2 c3
    refine x_iconst (pc := 8) (0 : Int32) dX9_isSign_8 (by decide +kernel) ?_
    exact x_zreturn2 (pc := 9) dX9_isSign_9 rfl rfl h.1 h.2
theorem dX9_kindBy_0 : decode cX9_kindBy 0 = .ok (.iload_n 0, 1) := by decide +kernel
theorem dX9_kindBy_1 : decode cX9_kindBy 1 = .ok (.bipush 115, 2) := by decide +kernel
theorem dX9_kindBy_3 : decode cX9_kindBy 3 = .ok (.if_icmp .ne 7, 3) := by decide +kernel
theorem dX9_kindBy_6 : decode cX9_kindBy 6 = .ok (.iconst 1, 1) := by decide +kernel
theorem dX9_kindBy_7 : decode cX9_kindBy 7 = .ok (.goto 44, 3) := by decide +kernel
theorem dX9_kindBy_10 : decode cX9_kindBy 10 = .ok (.iload_n 0, 1) := by decide +kernel
theorem dX9_kindBy_11 : decode cX9_kindBy 11 = .ok (.bipush 104, 2) := by decide +kernel
theorem dX9_kindBy_13 : decode cX9_kindBy 13 = .ok (.if_icmp .ne 7, 3) := by decide +kernel
theorem dX9_kindBy_16 : decode cX9_kindBy 16 = .ok (.iconst 2, 1) := by decide +kernel
theorem dX9_kindBy_17 : decode cX9_kindBy 17 = .ok (.goto 34, 3) := by decide +kernel
theorem dX9_kindBy_20 : decode cX9_kindBy 20 = .ok (.iload_n 0, 1) := by decide +kernel
theorem dX9_kindBy_21 : decode cX9_kindBy 21 = .ok (.bipush 116, 2) := by decide +kernel
theorem dX9_kindBy_23 : decode cX9_kindBy 23 = .ok (.if_icmp .ne 7, 3) := by decide +kernel
theorem dX9_kindBy_26 : decode cX9_kindBy 26 = .ok (.iconst 3, 1) := by decide +kernel
theorem dX9_kindBy_27 : decode cX9_kindBy 27 = .ok (.goto 24, 3) := by decide +kernel
theorem dX9_kindBy_30 : decode cX9_kindBy 30 = .ok (.iload_n 0, 1) := by decide +kernel
theorem dX9_kindBy_31 : decode cX9_kindBy 31 = .ok (.bipush 100, 2) := by decide +kernel
theorem dX9_kindBy_33 : decode cX9_kindBy 33 = .ok (.if_icmp .ne 7, 3) := by decide +kernel
theorem dX9_kindBy_36 : decode cX9_kindBy 36 = .ok (.iconst 4, 1) := by decide +kernel
theorem dX9_kindBy_37 : decode cX9_kindBy 37 = .ok (.goto 14, 3) := by decide +kernel
theorem dX9_kindBy_40 : decode cX9_kindBy 40 = .ok (.iload_n 0, 1) := by decide +kernel
theorem dX9_kindBy_41 : decode cX9_kindBy 41 = .ok (.bipush 102, 2) := by decide +kernel
theorem dX9_kindBy_43 : decode cX9_kindBy 43 = .ok (.if_icmp .ne 7, 3) := by decide +kernel
theorem dX9_kindBy_46 : decode cX9_kindBy 46 = .ok (.iconst 5, 1) := by decide +kernel
theorem dX9_kindBy_47 : decode cX9_kindBy 47 = .ok (.goto 4, 3) := by decide +kernel
theorem dX9_kindBy_50 : decode cX9_kindBy 50 = .ok (.iconst 0, 1) := by decide +kernel
theorem dX9_kindBy_51 : decode cX9_kindBy 51 = .ok (.ireturn, 1) := by decide +kernel
def R_X9_kindBy (a0 : Int32) (σ : kS) (x : Int32) (τ : kS) : Prop := Run SM jX9_kindBy [(.int a0)] σ (some (.int x)) τ
set_option maxRecDepth 20000 in
theorem t_X9_kindBy {a0 : Int32} {σ : kS} {x : Int32} {τ : kS}  (h : (¬ a0 = (115 : Int32) → (¬ a0 = (104 : Int32) → (¬ a0 = (116 : Int32) → (¬ a0 = (100 : Int32) → (¬ a0 = (102 : Int32) → x = (0 : Int32) ∧ τ = σ) ∧ (a0 = (102 : Int32) → x = (5 : Int32) ∧ τ = σ)) ∧ (a0 = (100 : Int32) → x = (4 : Int32) ∧ τ = σ)) ∧ (a0 = (116 : Int32) → x = (3 : Int32) ∧ τ = σ)) ∧ (a0 = (104 : Int32) → x = (2 : Int32) ∧ τ = σ)) ∧ (a0 = (115 : Int32) → x = (1 : Int32) ∧ τ = σ)) : R_X9_kindBy a0 σ x τ := by
  refine x_run [some (.int a0)] (by decide +kernel) rfl (Nat.le_of_ble_eq_true rfl) ?_
  refine x_iload_n (pc := 0) 0 dX9_kindBy_0 rfl rfl ?_
  refine x_bipush (pc := 1) (115 : Int32) dX9_kindBy_1 (by decide +kernel) ?_
  refine x_icmp_ne (pc := 3) 10 dX9_kindBy_3 (by decide) (fun c1 => ?_) (fun c1 => ?_)
  · replace h := h.1 c1
    refine x_iload_n (pc := 10) 0 dX9_kindBy_10 rfl rfl ?_
    refine x_bipush (pc := 11) (104 : Int32) dX9_kindBy_11 (by decide +kernel) ?_
    refine x_icmp_ne (pc := 13) 20 dX9_kindBy_13 (by decide) (fun c2 => ?_) (fun c2 => ?_)
    · replace h := h.1 c2
      refine x_iload_n (pc := 20) 0 dX9_kindBy_20 rfl rfl ?_
      refine x_bipush (pc := 21) (116 : Int32) dX9_kindBy_21 (by decide +kernel) ?_
      refine x_icmp_ne (pc := 23) 30 dX9_kindBy_23 (by decide) (fun c3 => ?_) (fun c3 => ?_)
      · replace h := h.1 c3
        refine x_iload_n (pc := 30) 0 dX9_kindBy_30 rfl rfl ?_
        refine x_bipush (pc := 31) (100 : Int32) dX9_kindBy_31 (by decide +kernel) ?_
        refine x_icmp_ne (pc := 33) 40 dX9_kindBy_33 (by decide) (fun c4 => ?_) (fun c4 => ?_)
        · replace h := h.1 c4
          refine x_iload_n (pc := 40) 0 dX9_kindBy_40 rfl rfl ?_
          refine x_bipush (pc := 41) (102 : Int32) dX9_kindBy_41 (by decide +kernel) ?_
          refine x_icmp_ne (pc := 43) 50 dX9_kindBy_43 (by decide) (fun c5 => ?_) (fun c5 => ?_)
          · replace h := h.1 c5
            refine x_iconst (pc := 50) (0 : Int32) dX9_kindBy_50 (by decide +kernel) ?_
            exact x_ireturn2 (pc := 51) dX9_kindBy_51 rfl h.1 h.2
          · replace h := h.2 c5
            refine x_iconst (pc := 46) (5 : Int32) dX9_kindBy_46 (by decide +kernel) ?_
            refine x_goto (pc := 47) 51 dX9_kindBy_47 (by decide) ?_
            exact x_ireturn2 (pc := 51) dX9_kindBy_51 rfl h.1 h.2
        · replace h := h.2 c4
          refine x_iconst (pc := 36) (4 : Int32) dX9_kindBy_36 (by decide +kernel) ?_
          refine x_goto (pc := 37) 51 dX9_kindBy_37 (by decide) ?_
          exact x_ireturn2 (pc := 51) dX9_kindBy_51 rfl h.1 h.2
      · replace h := h.2 c3
        refine x_iconst (pc := 26) (3 : Int32) dX9_kindBy_26 (by decide +kernel) ?_
        refine x_goto (pc := 27) 51 dX9_kindBy_27 (by decide) ?_
        exact x_ireturn2 (pc := 51) dX9_kindBy_51 rfl h.1 h.2
    · replace h := h.2 c2
      refine x_iconst (pc := 16) (2 : Int32) dX9_kindBy_16 (by decide +kernel) ?_
      refine x_goto (pc := 17) 51 dX9_kindBy_17 (by decide) ?_
      exact x_ireturn2 (pc := 51) dX9_kindBy_51 rfl h.1 h.2
  · replace h := h.2 c1
    refine x_iconst (pc := 6) (1 : Int32) dX9_kindBy_6 (by decide +kernel) ?_
    refine x_goto (pc := 7) 51 dX9_kindBy_7 (by decide) ?_
    exact x_ireturn2 (pc := 51) dX9_kindBy_51 rfl h.1 h.2
theorem dX9_pitchThere_0 : decode cX9_pitchThere 0 = .ok (.aload_n 0, 1) := by decide +kernel
theorem dX9_pitchThere_1 : decode cX9_pitchThere 1 = .ok (.invokevirtual 65, 3) := by decide +kernel
theorem dX9_pitchThere_4 : decode cX9_pitchThere 4 = .ok (.istore_n 1, 1) := by decide +kernel
theorem dX9_pitchThere_5 : decode cX9_pitchThere 5 = .ok (.iload_n 1, 1) := by decide +kernel
theorem dX9_pitchThere_6 : decode cX9_pitchThere 6 = .ok (.bipush 48, 2) := by decide +kernel
theorem dX9_pitchThere_8 : decode cX9_pitchThere 8 = .ok (.bipush 57, 2) := by decide +kernel
theorem dX9_pitchThere_10 : decode cX9_pitchThere 10 = .ok (.invokestatic 54, 3) := by decide +kernel
theorem dX9_pitchThere_13 : decode cX9_pitchThere 13 = .ok (.ifCond .eq 10, 3) := by decide +kernel
theorem dX9_pitchThere_16 : decode cX9_pitchThere 16 = .ok (.iload_n 1, 1) := by decide +kernel
theorem dX9_pitchThere_17 : decode cX9_pitchThere 17 = .ok (.bipush 48, 2) := by decide +kernel
theorem dX9_pitchThere_19 : decode cX9_pitchThere 19 = .ok (.isub, 1) := by decide +kernel
theorem dX9_pitchThere_20 : decode cX9_pitchThere 20 = .ok (.goto 26, 3) := by decide +kernel
theorem dX9_pitchThere_23 : decode cX9_pitchThere 23 = .ok (.iload_n 1, 1) := by decide +kernel
theorem dX9_pitchThere_24 : decode cX9_pitchThere 24 = .ok (.bipush 97, 2) := by decide +kernel
theorem dX9_pitchThere_26 : decode cX9_pitchThere 26 = .ok (.if_icmp .ne 8, 3) := by decide +kernel
theorem dX9_pitchThere_29 : decode cX9_pitchThere 29 = .ok (.bipush 10, 2) := by decide +kernel
theorem dX9_pitchThere_31 : decode cX9_pitchThere 31 = .ok (.goto 15, 3) := by decide +kernel
theorem dX9_pitchThere_34 : decode cX9_pitchThere 34 = .ok (.iload_n 1, 1) := by decide +kernel
theorem dX9_pitchThere_35 : decode cX9_pitchThere 35 = .ok (.bipush 98, 2) := by decide +kernel
theorem dX9_pitchThere_37 : decode cX9_pitchThere 37 = .ok (.if_icmp .ne 8, 3) := by decide +kernel
theorem dX9_pitchThere_40 : decode cX9_pitchThere 40 = .ok (.bipush 11, 2) := by decide +kernel
theorem dX9_pitchThere_42 : decode cX9_pitchThere 42 = .ok (.goto 4, 3) := by decide +kernel
theorem dX9_pitchThere_45 : decode cX9_pitchThere 45 = .ok (.iconst (-1), 1) := by decide +kernel
theorem dX9_pitchThere_46 : decode cX9_pitchThere 46 = .ok (.ireturn, 1) := by decide +kernel
def R_X9_pitchThere  (σ : kS) (x : Int32) (τ : kS) : Prop := Run SM jX9_pitchThere [(.ref 0)] σ (some (.int x)) τ
set_option maxRecDepth 20000 in
theorem t_X9_pitchThere  {σ : kS} {x : Int32} {τ : kS}  (h : ∃ (x2 : Int32) (s1 : kS), R_X9_peek  σ x2 s1 ∧ ((¬ (iv x2 (48 : Int32) (57 : Int32)) → (¬ x2 = (97 : Int32) → (¬ x2 = (98 : Int32) → x = (-1 : Int32) ∧ τ = s1) ∧ (x2 = (98 : Int32) → x = (11 : Int32) ∧ τ = s1)) ∧ (x2 = (97 : Int32) → x = (10 : Int32) ∧ τ = s1)) ∧ ((iv x2 (48 : Int32) (57 : Int32)) → x = (x2 - (48 : Int32)) ∧ τ = s1))) : R_X9_pitchThere  σ x τ := by
  refine x_run [some (.ref 0), none] (by decide +kernel) rfl (Nat.le_of_ble_eq_true rfl) ?_
  refine x_aload_n (pc := 0) 0 dX9_pitchThere_0 rfl rfl ?_
  obtain ⟨x2, s1, hr, h⟩ := h
  refine x_callV (pc := 1) [] [] dX9_pitchThere_1 ⟨⟨hX9_peek.1, hX9_peek.2.1, hX9_peek.2.2, by decide⟩, mX9_65, vX9_peek.1, vX9_peek.2⟩ (ci := 9) rfl rfl rfl rfl (Nat.le_of_ble_eq_true rfl) hr ?_
  refine x_istore_n (pc := 4) 1 dX9_pitchThere_4 rfl (by decide) rfl ?_
  refine x_iload_n (pc := 5) 1 dX9_pitchThere_5 rfl rfl ?_
  refine x_bipush (pc := 6) (48 : Int32) dX9_pitchThere_6 (by decide +kernel) ?_
  refine x_bipush (pc := 8) (57 : Int32) dX9_pitchThere_8 (by decide +kernel) ?_
  refine x_callS (pc := 10) [(.int x2), (.int (48 : Int32)), (.int (57 : Int32))] [] dX9_pitchThere_10 ⟨⟨hX9_in.1, hX9_in.2.1, hX9_in.2.2, by decide⟩, mX9_54, sX9_in⟩ rfl rfl (Nat.le_of_ble_eq_true rfl) (i_X9_in) ?_
  refine x_bif_eq (pc := 13) 23 dX9_pitchThere_13 (by decide) (fun c3 => ?_) (fun c3 => ?_)
  · replace h := h.1 c3
    refine x_iload_n (pc := 23) 1 dX9_pitchThere_23 rfl rfl ?_
    refine x_bipush (pc := 24) (97 : Int32) dX9_pitchThere_24 (by decide +kernel) ?_
    refine x_icmp_ne (pc := 26) 34 dX9_pitchThere_26 (by decide) (fun c4 => ?_) (fun c4 => ?_)
    · replace h := h.1 c4
      refine x_iload_n (pc := 34) 1 dX9_pitchThere_34 rfl rfl ?_
      refine x_bipush (pc := 35) (98 : Int32) dX9_pitchThere_35 (by decide +kernel) ?_
      refine x_icmp_ne (pc := 37) 45 dX9_pitchThere_37 (by decide) (fun c5 => ?_) (fun c5 => ?_)
      · replace h := h.1 c5
        refine x_iconst (pc := 45) (-1 : Int32) dX9_pitchThere_45 (by decide +kernel) ?_
        exact x_ireturn2 (pc := 46) dX9_pitchThere_46 rfl h.1 h.2
      · replace h := h.2 c5
        refine x_bipush (pc := 40) (11 : Int32) dX9_pitchThere_40 (by decide +kernel) ?_
        refine x_goto (pc := 42) 46 dX9_pitchThere_42 (by decide) ?_
        exact x_ireturn2 (pc := 46) dX9_pitchThere_46 rfl h.1 h.2
    · replace h := h.2 c4
      refine x_bipush (pc := 29) (10 : Int32) dX9_pitchThere_29 (by decide +kernel) ?_
      refine x_goto (pc := 31) 46 dX9_pitchThere_31 (by decide) ?_
      exact x_ireturn2 (pc := 46) dX9_pitchThere_46 rfl h.1 h.2
  · replace h := h.2 c3
    refine x_iload_n (pc := 16) 1 dX9_pitchThere_16 rfl rfl ?_
    refine x_bipush (pc := 17) (48 : Int32) dX9_pitchThere_17 (by decide +kernel) ?_
    refine x_isub (pc := 19) dX9_pitchThere_19 ?_
    refine x_goto (pc := 20) 46 dX9_pitchThere_20 (by decide) ?_
    exact x_ireturn2 (pc := 46) dX9_pitchThere_46 rfl h.1 h.2
theorem dX9_pitches_0 : decode cX9_pitches 0 = .ok (.iconst 0, 1) := by decide +kernel
theorem dX9_pitches_1 : decode cX9_pitches 1 = .ok (.istore_n 2, 1) := by decide +kernel
theorem dX9_pitches_2 : decode cX9_pitches 2 = .ok (.iconst (-1), 1) := by decide +kernel
theorem dX9_pitches_3 : decode cX9_pitches 3 = .ok (.istore_n 3, 1) := by decide +kernel
theorem dX9_pitches_4 : decode cX9_pitches 4 = .ok (.iconst 0, 1) := by decide +kernel
theorem dX9_pitches_5 : decode cX9_pitches 5 = .ok (.istore 4, 2) := by decide +kernel
theorem dX9_pitches_7 : decode cX9_pitches 7 = .ok (.aload_n 0, 1) := by decide +kernel
theorem dX9_pitches_8 : decode cX9_pitches 8 = .ok (.invokevirtual 69, 3) := by decide +kernel
theorem dX9_pitches_11 : decode cX9_pitches 11 = .ok (.istore 5, 2) := by decide +kernel
theorem dX9_pitches_13 : decode cX9_pitches 13 = .ok (.iload 5, 2) := by decide +kernel
theorem dX9_pitches_15 : decode cX9_pitches 15 = .ok (.iload_n 3, 1) := by decide +kernel
theorem dX9_pitches_16 : decode cX9_pitches 16 = .ok (.if_icmp .le 41, 3) := by decide +kernel
theorem dX9_pitches_19 : decode cX9_pitches 19 = .ok (.iload 4, 2) := by decide +kernel
theorem dX9_pitches_21 : decode cX9_pitches 21 = .ok (.iload_n 1, 1) := by decide +kernel
theorem dX9_pitches_22 : decode cX9_pitches 22 = .ok (.if_icmp .ge 35, 3) := by decide +kernel
theorem dX9_pitches_25 : decode cX9_pitches 25 = .ok (.iload_n 2, 1) := by decide +kernel
theorem dX9_pitches_26 : decode cX9_pitches 26 = .ok (.iconst 1, 1) := by decide +kernel
theorem dX9_pitches_27 : decode cX9_pitches 27 = .ok (.iload 5, 2) := by decide +kernel
theorem dX9_pitches_29 : decode cX9_pitches 29 = .ok (.ishl, 1) := by decide +kernel
theorem dX9_pitches_30 : decode cX9_pitches 30 = .ok (.ior, 1) := by decide +kernel
theorem dX9_pitches_31 : decode cX9_pitches 31 = .ok (.istore_n 2, 1) := by decide +kernel
theorem dX9_pitches_32 : decode cX9_pitches 32 = .ok (.iload 5, 2) := by decide +kernel
theorem dX9_pitches_34 : decode cX9_pitches 34 = .ok (.istore_n 3, 1) := by decide +kernel
theorem dX9_pitches_35 : decode cX9_pitches 35 = .ok (.iinc 4 1, 3) := by decide +kernel
theorem dX9_pitches_38 : decode cX9_pitches 38 = .ok (.aload_n 0, 1) := by decide +kernel
theorem dX9_pitches_39 : decode cX9_pitches 39 = .ok (.dup, 1) := by decide +kernel
theorem dX9_pitches_40 : decode cX9_pitches 40 = .ok (.getfield 62, 3) := by decide +kernel
theorem dX9_pitches_43 : decode cX9_pitches 43 = .ok (.iconst 1, 1) := by decide +kernel
theorem dX9_pitches_44 : decode cX9_pitches 44 = .ok (.iadd, 1) := by decide +kernel
theorem dX9_pitches_45 : decode cX9_pitches 45 = .ok (.putfield 62, 3) := by decide +kernel
theorem dX9_pitches_48 : decode cX9_pitches 48 = .ok (.aload_n 0, 1) := by decide +kernel
theorem dX9_pitches_49 : decode cX9_pitches 49 = .ok (.invokevirtual 69, 3) := by decide +kernel
theorem dX9_pitches_52 : decode cX9_pitches 52 = .ok (.istore 5, 2) := by decide +kernel
theorem dX9_pitches_54 : decode cX9_pitches 54 = .ok (.goto (-41), 3) := by decide +kernel
theorem dX9_pitches_57 : decode cX9_pitches 57 = .ok (.iload_n 2, 1) := by decide +kernel
theorem dX9_pitches_58 : decode cX9_pitches 58 = .ok (.ireturn, 1) := by decide +kernel
def R_X9_pitches (a1 : Int32) (σ : kS) (x : Int32) (τ : kS) : Prop := Run SM jX9_pitches [(.ref 0), (.int a1)] σ (some (.int x)) τ
def E_X9_pitches_13 (l1 : Int32) (l2 : Int32) (l3 : Int32) (l4 : Int32) (l5 : Int32) (σ : kS) (x : Int32) (τ : kS) : Prop := Ex SM jX9_pitches 13 [some (.ref 0), some (.int l1), some (.int l2), some (.int l3), some (.int l4), some (.int l5)] [] σ (some (.int x)) τ
set_option maxRecDepth 20000 in
theorem t_X9_pitches {a1 : Int32} {σ : kS} {x : Int32} {τ : kS}  (h : ∃ (x2 : Int32) (s1 : kS), R_X9_pitchThere  σ x2 s1 ∧ (E_X9_pitches_13 a1 (0 : Int32) (-1 : Int32) (0 : Int32) x2 s1 x τ)) : R_X9_pitches a1 σ x τ := by
  refine x_run [some (.ref 0), some (.int a1), none, none, none, none] (by decide +kernel) rfl (Nat.le_of_ble_eq_true rfl) ?_
  refine x_iconst (pc := 0) (0 : Int32) dX9_pitches_0 (by decide +kernel) ?_
  refine x_istore_n (pc := 1) 2 dX9_pitches_1 rfl (by decide) rfl ?_
  refine x_iconst (pc := 2) (-1 : Int32) dX9_pitches_2 (by decide +kernel) ?_
  refine x_istore_n (pc := 3) 3 dX9_pitches_3 rfl (by decide) rfl ?_
  refine x_iconst (pc := 4) (0 : Int32) dX9_pitches_4 (by decide +kernel) ?_
  refine x_istore (pc := 5) dX9_pitches_5 (by decide) rfl ?_
  refine x_aload_n (pc := 7) 0 dX9_pitches_7 rfl rfl ?_
  obtain ⟨x2, s1, hr, h⟩ := h
  refine x_callV (pc := 8) [] [] dX9_pitches_8 ⟨⟨hX9_pitchThere.1, hX9_pitchThere.2.1, hX9_pitchThere.2.2, by decide⟩, mX9_69, vX9_pitchThere.1, vX9_pitchThere.2⟩ (ci := 9) rfl rfl rfl rfl (Nat.le_of_ble_eq_true rfl) hr ?_
  refine x_istore (pc := 11) dX9_pitches_11 (by decide) rfl ?_
  exact h
set_option maxRecDepth 20000 in
theorem t_X9_pitches_13 {l1 : Int32} {l2 : Int32} {l3 : Int32} {l4 : Int32} {l5 : Int32} {σ : kS} {x : Int32} {τ : kS}  (h : (l5 ≤ l3 → x = l2 ∧ τ = σ) ∧ (¬ l5 ≤ l3 → (l1 ≤ l4 → x = l2 ∧ τ = σ) ∧ (¬ l1 ≤ l4 → ∃ (x4 : Int32) (s3 : kS), R_X9_pitchThere  (k_si σ 0 5 ((σ.1 0 5) + (1 : Int32))) x4 s3 ∧ (E_X9_pitches_13 l1 (l2 ||| ((1 : Int32) <<< (l5 &&& 31))) l5 (l4 + (1 : Int32)) x4 s3 x τ)))) : E_X9_pitches_13 l1 l2 l3 l4 l5 σ x τ := by
  unfold E_X9_pitches_13
  refine x_iload (pc := 13) dX9_pitches_13 rfl ?_
  refine x_iload_n (pc := 15) 3 dX9_pitches_15 rfl rfl ?_
  refine x_icmp_le (pc := 16) 57 dX9_pitches_16 (by decide) (fun c1 => ?_) (fun c1 => ?_)
  · replace h := h.1 c1
    refine x_iload_n (pc := 57) 2 dX9_pitches_57 rfl rfl ?_
    exact x_ireturn2 (pc := 58) dX9_pitches_58 rfl h.1 h.2
  · replace h := h.2 c1
    refine x_iload (pc := 19) dX9_pitches_19 rfl ?_
    refine x_iload_n (pc := 21) 1 dX9_pitches_21 rfl rfl ?_
    refine x_icmp_ge (pc := 22) 57 dX9_pitches_22 (by decide) (fun c2 => ?_) (fun c2 => ?_)
    · replace h := h.1 c2
      refine x_iload_n (pc := 57) 2 dX9_pitches_57 rfl rfl ?_
      exact x_ireturn2 (pc := 58) dX9_pitches_58 rfl h.1 h.2
    · replace h := h.2 c2
      refine x_iload_n (pc := 25) 2 dX9_pitches_25 rfl rfl ?_
      refine x_iconst (pc := 26) (1 : Int32) dX9_pitches_26 (by decide +kernel) ?_
      refine x_iload (pc := 27) dX9_pitches_27 rfl ?_
      refine x_ishl (pc := 29) dX9_pitches_29 ?_
      refine x_ior (pc := 30) dX9_pitches_30 ?_
      refine x_istore_n (pc := 31) 2 dX9_pitches_31 rfl (by decide) rfl ?_
      refine x_iload (pc := 32) dX9_pitches_32 rfl ?_
      refine x_istore_n (pc := 34) 3 dX9_pitches_34 rfl (by decide) rfl ?_
      refine x_iinc (pc := 35) (1 : Int32) dX9_pitches_35 (by decide) rfl rfl (by decide +kernel) ?_
      refine x_aload_n (pc := 38) 0 dX9_pitches_38 rfl rfl ?_
      refine x_dup (pc := 39) dX9_pitches_39 rfl ?_
      refine x_getI (pc := 40) dX9_pitches_40 fX9_62 rfl rfl ?_
      refine x_iconst (pc := 43) (1 : Int32) dX9_pitches_43 (by decide +kernel) ?_
      refine x_iadd (pc := 44) dX9_pitches_44 ?_
      refine x_putI (pc := 45) dX9_pitches_45 pX9_62 rfl rfl ?_
      refine x_aload_n (pc := 48) 0 dX9_pitches_48 rfl rfl ?_
      obtain ⟨x4, s3, hr, h⟩ := h
      refine x_callV (pc := 49) [] [] dX9_pitches_49 ⟨⟨hX9_pitchThere.1, hX9_pitchThere.2.1, hX9_pitchThere.2.2, by decide⟩, mX9_69, vX9_pitchThere.1, vX9_pitchThere.2⟩ (ci := 9) rfl rfl rfl rfl (Nat.le_of_ble_eq_true rfl) hr ?_
      refine x_istore (pc := 52) dX9_pitches_52 (by decide) rfl ?_
      refine x_goto (pc := 54) 13 dX9_pitches_54 (by decide) ?_
      exact h
theorem dX9_isShape_0 : decode cX9_isShape 0 = .ok (.aload_n 0, 1) := by decide +kernel
theorem dX9_isShape_1 : decode cX9_isShape 1 = .ok (.invokevirtual 69, 3) := by decide +kernel
theorem dX9_isShape_4 : decode cX9_isShape 4 = .ok (.ifCond .eq 5, 3) := by decide +kernel
theorem dX9_isShape_7 : decode cX9_isShape 7 = .ok (.iconst 0, 1) := by decide +kernel
theorem dX9_isShape_8 : decode cX9_isShape 8 = .ok (.ireturn, 1) := by decide +kernel
theorem dX9_isShape_9 : decode cX9_isShape 9 = .ok (.aload_n 0, 1) := by decide +kernel
theorem dX9_isShape_10 : decode cX9_isShape 10 = .ok (.iconst 5, 1) := by decide +kernel
theorem dX9_isShape_11 : decode cX9_isShape 11 = .ok (.invokevirtual 72, 3) := by decide +kernel
theorem dX9_isShape_14 : decode cX9_isShape 14 = .ok (.istore_n 1, 1) := by decide +kernel
theorem dX9_isShape_15 : decode cX9_isShape 15 = .ok (.iload_n 1, 1) := by decide +kernel
theorem dX9_isShape_16 : decode cX9_isShape 16 = .ok (.invokestatic 76, 3) := by decide +kernel
theorem dX9_isShape_19 : decode cX9_isShape 19 = .ok (.iconst 2, 1) := by decide +kernel
theorem dX9_isShape_20 : decode cX9_isShape 20 = .ok (.if_icmp .ge 5, 3) := by decide +kernel
theorem dX9_isShape_23 : decode cX9_isShape 23 = .ok (.iconst 0, 1) := by decide +kernel
theorem dX9_isShape_24 : decode cX9_isShape 24 = .ok (.ireturn, 1) := by decide +kernel
theorem dX9_isShape_25 : decode cX9_isShape 25 = .ok (.aload_n 0, 1) := by decide +kernel
theorem dX9_isShape_26 : decode cX9_isShape 26 = .ok (.getfield 26, 3) := by decide +kernel
theorem dX9_isShape_29 : decode cX9_isShape 29 = .ok (.iconst 4, 1) := by decide +kernel
theorem dX9_isShape_30 : decode cX9_isShape 30 = .ok (.aload_n 0, 1) := by decide +kernel
theorem dX9_isShape_31 : decode cX9_isShape 31 = .ok (.getfield 26, 3) := by decide +kernel
theorem dX9_isShape_34 : decode cX9_isShape 34 = .ok (.iconst 1, 1) := by decide +kernel
theorem dX9_isShape_35 : decode cX9_isShape 35 = .ok (.iaload, 1) := by decide +kernel
theorem dX9_isShape_36 : decode cX9_isShape 36 = .ok (.iadd, 1) := by decide +kernel
theorem dX9_isShape_37 : decode cX9_isShape 37 = .ok (.iload_n 1, 1) := by decide +kernel
theorem dX9_isShape_38 : decode cX9_isShape 38 = .ok (.iastore, 1) := by decide +kernel
theorem dX9_isShape_39 : decode cX9_isShape 39 = .ok (.aload_n 0, 1) := by decide +kernel
theorem dX9_isShape_40 : decode cX9_isShape 40 = .ok (.getfield 26, 3) := by decide +kernel
theorem dX9_isShape_43 : decode cX9_isShape 43 = .ok (.iconst 1, 1) := by decide +kernel
theorem dX9_isShape_44 : decode cX9_isShape 44 = .ok (.dup2, 1) := by decide +kernel
theorem dX9_isShape_45 : decode cX9_isShape 45 = .ok (.iaload, 1) := by decide +kernel
theorem dX9_isShape_46 : decode cX9_isShape 46 = .ok (.iconst 1, 1) := by decide +kernel
theorem dX9_isShape_47 : decode cX9_isShape 47 = .ok (.iadd, 1) := by decide +kernel
theorem dX9_isShape_48 : decode cX9_isShape 48 = .ok (.iastore, 1) := by decide +kernel
theorem dX9_isShape_49 : decode cX9_isShape 49 = .ok (.iconst 1, 1) := by decide +kernel
theorem dX9_isShape_50 : decode cX9_isShape 50 = .ok (.ireturn, 1) := by decide +kernel
def R_X9_isShape  (σ : kS) (x : Int32) (τ : kS) : Prop := Run SM jX9_isShape [(.ref 0)] σ (some (.int x)) τ
set_option maxRecDepth 20000 in
theorem t_X9_isShape  {σ : kS} {x : Int32} {τ : kS}  (h : ∃ (x2 : Int32) (s1 : kS), R_X9_pitchThere  σ x2 s1 ∧ ((x2 = 0 → ∃ (x5 : Int32) (s4 : kS), R_X9_pitches (5 : Int32) s1 x5 s4 ∧ (∃ (x7 : Int32) (s6 : kS), R_X9_bits x5 s4 x7 s6 ∧ (((2 : Int32) ≤ x7 → vp_in ((4 : Int32) + (s6.1 6 1)) 38 ∧ (x = (1 : Int32) ∧ τ = (k_si (k_si s6 6 ((4 : Int32) + (s6.1 6 1)).toNatClampNeg x5) 6 1 (((k_si s6 6 ((4 : Int32) + (s6.1 6 1)).toNatClampNeg x5).1 6 1) + (1 : Int32))))) ∧ (¬ (2 : Int32) ≤ x7 → x = (0 : Int32) ∧ τ = s6)))) ∧ (¬ x2 = 0 → x = (0 : Int32) ∧ τ = s1))) : R_X9_isShape  σ x τ := by
  refine x_run [some (.ref 0), none] (by decide +kernel) rfl (Nat.le_of_ble_eq_true rfl) ?_
  refine x_aload_n (pc := 0) 0 dX9_isShape_0 rfl rfl ?_
  obtain ⟨x2, s1, hr, h⟩ := h
  refine x_callV (pc := 1) [] [] dX9_isShape_1 ⟨⟨hX9_pitchThere.1, hX9_pitchThere.2.1, hX9_pitchThere.2.2, by decide⟩, mX9_69, vX9_pitchThere.1, vX9_pitchThere.2⟩ (ci := 9) rfl rfl rfl rfl (Nat.le_of_ble_eq_true rfl) hr ?_
  refine x_if_eq (pc := 4) 9 dX9_isShape_4 (by decide) (fun c3 => ?_) (fun c3 => ?_)
  · replace h := h.1 c3
    refine x_aload_n (pc := 9) 0 dX9_isShape_9 rfl rfl ?_
    refine x_iconst (pc := 10) (5 : Int32) dX9_isShape_10 (by decide +kernel) ?_
    obtain ⟨x5, s4, hr, h⟩ := h
    refine x_callV (pc := 11) [(.int (5 : Int32))] [] dX9_isShape_11 ⟨⟨hX9_pitches.1, hX9_pitches.2.1, hX9_pitches.2.2, by decide⟩, mX9_72, vX9_pitches.1, vX9_pitches.2⟩ (ci := 9) rfl rfl rfl rfl (Nat.le_of_ble_eq_true rfl) hr ?_
    refine x_istore_n (pc := 14) 1 dX9_isShape_14 rfl (by decide) rfl ?_
    refine x_iload_n (pc := 15) 1 dX9_isShape_15 rfl rfl ?_
    obtain ⟨x7, s6, hr, h⟩ := h
    refine x_callS (pc := 16) [(.int x5)] [] dX9_isShape_16 ⟨⟨hX9_bits.1, hX9_bits.2.1, hX9_bits.2.2, by decide⟩, mX9_76, sX9_bits⟩ rfl rfl (Nat.le_of_ble_eq_true rfl) hr ?_
    refine x_iconst (pc := 19) (2 : Int32) dX9_isShape_19 (by decide +kernel) ?_
    refine x_icmp_ge (pc := 20) 25 dX9_isShape_20 (by decide) (fun c8 => ?_) (fun c8 => ?_)
    · replace h := h.1 c8
      refine x_aload_n (pc := 25) 0 dX9_isShape_25 rfl rfl ?_
      refine x_getR (pc := 26) dX9_isShape_26 fX9_26 rfl rfl ?_
      refine x_iconst (pc := 29) (4 : Int32) dX9_isShape_29 (by decide +kernel) ?_
      refine x_aload_n (pc := 30) 0 dX9_isShape_30 rfl rfl ?_
      refine x_getR (pc := 31) dX9_isShape_31 fX9_26 rfl rfl ?_
      refine x_iconst (pc := 34) (1 : Int32) dX9_isShape_34 (by decide +kernel) ?_
      refine x_ialoadK (pc := 35) (n := 38) 1 dX9_isShape_35 rfl (by decide) (by decide +kernel) ?_
      refine x_iadd (pc := 36) dX9_isShape_36 ?_
      refine x_iload_n (pc := 37) 1 dX9_isShape_37 rfl rfl ?_
      obtain ⟨g9, h⟩ := h
      refine x_iastore (pc := 38) (n := 38) dX9_isShape_38 rfl g9 ?_
      refine x_aload_n (pc := 39) 0 dX9_isShape_39 rfl rfl ?_
      refine x_getR (pc := 40) dX9_isShape_40 fX9_26 rfl rfl ?_
      refine x_iconst (pc := 43) (1 : Int32) dX9_isShape_43 (by decide +kernel) ?_
      refine x_dup2 (pc := 44) dX9_isShape_44 rfl rfl ?_
      refine x_ialoadK (pc := 45) (n := 38) 1 dX9_isShape_45 rfl (by decide) (by decide +kernel) ?_
      refine x_iconst (pc := 46) (1 : Int32) dX9_isShape_46 (by decide +kernel) ?_
      refine x_iadd (pc := 47) dX9_isShape_47 ?_
      refine x_iastoreK (pc := 48) (n := 38) 1 dX9_isShape_48 rfl (by decide) (by decide +kernel) ?_
      refine x_iconst (pc := 49) (1 : Int32) dX9_isShape_49 (by decide +kernel) ?_
      exact x_zreturn2 (pc := 50) dX9_isShape_50 rfl rfl h.1 h.2
    · replace h := h.2 c8
      refine x_iconst (pc := 23) (0 : Int32) dX9_isShape_23 (by decide +kernel) ?_
      exact x_zreturn2 (pc := 24) dX9_isShape_24 rfl rfl h.1 h.2
  · replace h := h.2 c3
    refine x_iconst (pc := 7) (0 : Int32) dX9_isShape_7 (by decide +kernel) ?_
    exact x_zreturn2 (pc := 8) dX9_isShape_8 rfl rfl h.1 h.2
theorem dX9_isFieldItem_0 : decode cX9_isFieldItem 0 = .ok (.iconst 0, 1) := by decide +kernel
theorem dX9_isFieldItem_1 : decode cX9_isFieldItem 1 = .ok (.istore_n 1, 1) := by decide +kernel
theorem dX9_isFieldItem_2 : decode cX9_isFieldItem 2 = .ok (.aload_n 0, 1) := by decide +kernel
theorem dX9_isFieldItem_3 : decode cX9_isFieldItem 3 = .ok (.bipush 45, 2) := by decide +kernel
theorem dX9_isFieldItem_5 : decode cX9_isFieldItem 5 = .ok (.invokevirtual 79, 3) := by decide +kernel
theorem dX9_isFieldItem_8 : decode cX9_isFieldItem 8 = .ok (.ifCond .ne 16, 3) := by decide +kernel
theorem dX9_isFieldItem_11 : decode cX9_isFieldItem 11 = .ok (.aload_n 0, 1) := by decide +kernel
theorem dX9_isFieldItem_12 : decode cX9_isFieldItem 12 = .ok (.bipush 12, 2) := by decide +kernel
theorem dX9_isFieldItem_14 : decode cX9_isFieldItem 14 = .ok (.invokevirtual 72, 3) := by decide +kernel
theorem dX9_isFieldItem_17 : decode cX9_isFieldItem 17 = .ok (.istore_n 1, 1) := by decide +kernel
theorem dX9_isFieldItem_18 : decode cX9_isFieldItem 18 = .ok (.iload_n 1, 1) := by decide +kernel
theorem dX9_isFieldItem_19 : decode cX9_isFieldItem 19 = .ok (.ifCond .ne 5, 3) := by decide +kernel
theorem dX9_isFieldItem_22 : decode cX9_isFieldItem 22 = .ok (.iconst 0, 1) := by decide +kernel
theorem dX9_isFieldItem_23 : decode cX9_isFieldItem 23 = .ok (.ireturn, 1) := by decide +kernel
theorem dX9_isFieldItem_24 : decode cX9_isFieldItem 24 = .ok (.aload_n 0, 1) := by decide +kernel
theorem dX9_isFieldItem_25 : decode cX9_isFieldItem 25 = .ok (.getfield 26, 3) := by decide +kernel
theorem dX9_isFieldItem_28 : decode cX9_isFieldItem 28 = .ok (.bipush 8, 2) := by decide +kernel
theorem dX9_isFieldItem_30 : decode cX9_isFieldItem 30 = .ok (.aload_n 0, 1) := by decide +kernel
theorem dX9_isFieldItem_31 : decode cX9_isFieldItem 31 = .ok (.getfield 26, 3) := by decide +kernel
theorem dX9_isFieldItem_34 : decode cX9_isFieldItem 34 = .ok (.iconst 2, 1) := by decide +kernel
theorem dX9_isFieldItem_35 : decode cX9_isFieldItem 35 = .ok (.iaload, 1) := by decide +kernel
theorem dX9_isFieldItem_36 : decode cX9_isFieldItem 36 = .ok (.iadd, 1) := by decide +kernel
theorem dX9_isFieldItem_37 : decode cX9_isFieldItem 37 = .ok (.iload_n 1, 1) := by decide +kernel
theorem dX9_isFieldItem_38 : decode cX9_isFieldItem 38 = .ok (.iastore, 1) := by decide +kernel
theorem dX9_isFieldItem_39 : decode cX9_isFieldItem 39 = .ok (.aload_n 0, 1) := by decide +kernel
theorem dX9_isFieldItem_40 : decode cX9_isFieldItem 40 = .ok (.getfield 26, 3) := by decide +kernel
theorem dX9_isFieldItem_43 : decode cX9_isFieldItem 43 = .ok (.iconst 2, 1) := by decide +kernel
theorem dX9_isFieldItem_44 : decode cX9_isFieldItem 44 = .ok (.dup2, 1) := by decide +kernel
theorem dX9_isFieldItem_45 : decode cX9_isFieldItem 45 = .ok (.iaload, 1) := by decide +kernel
theorem dX9_isFieldItem_46 : decode cX9_isFieldItem 46 = .ok (.iconst 1, 1) := by decide +kernel
theorem dX9_isFieldItem_47 : decode cX9_isFieldItem 47 = .ok (.iadd, 1) := by decide +kernel
theorem dX9_isFieldItem_48 : decode cX9_isFieldItem 48 = .ok (.iastore, 1) := by decide +kernel
theorem dX9_isFieldItem_49 : decode cX9_isFieldItem 49 = .ok (.iconst 1, 1) := by decide +kernel
theorem dX9_isFieldItem_50 : decode cX9_isFieldItem 50 = .ok (.ireturn, 1) := by decide +kernel
def R_X9_isFieldItem  (σ : kS) (x : Int32) (τ : kS) : Prop := Run SM jX9_isFieldItem [(.ref 0)] σ (some (.int x)) τ
def E_X9_isFieldItem_24 (l1 : Int32) (σ : kS) (x : Int32) (τ : kS) : Prop := Ex SM jX9_isFieldItem 24 [some (.ref 0), some (.int l1)] [] σ (some (.int x)) τ
set_option maxRecDepth 20000 in
theorem t_X9_isFieldItem  {σ : kS} {x : Int32} {τ : kS}  (h : ∃ (x2 : Int32) (s1 : kS), R_X9_isSign (45 : Int32) σ x2 s1 ∧ ((¬ x2 = 0 → E_X9_isFieldItem_24 (0 : Int32) s1 x τ) ∧ (x2 = 0 → ∃ (x5 : Int32) (s4 : kS), R_X9_pitches (12 : Int32) s1 x5 s4 ∧ ((¬ x5 = 0 → E_X9_isFieldItem_24 x5 s4 x τ) ∧ (x5 = 0 → x = (0 : Int32) ∧ τ = s4))))) : R_X9_isFieldItem  σ x τ := by
  refine x_run [some (.ref 0), none] (by decide +kernel) rfl (Nat.le_of_ble_eq_true rfl) ?_
  refine x_iconst (pc := 0) (0 : Int32) dX9_isFieldItem_0 (by decide +kernel) ?_
  refine x_istore_n (pc := 1) 1 dX9_isFieldItem_1 rfl (by decide) rfl ?_
  refine x_aload_n (pc := 2) 0 dX9_isFieldItem_2 rfl rfl ?_
  refine x_bipush (pc := 3) (45 : Int32) dX9_isFieldItem_3 (by decide +kernel) ?_
  obtain ⟨x2, s1, hr, h⟩ := h
  refine x_callV (pc := 5) [(.int (45 : Int32))] [] dX9_isFieldItem_5 ⟨⟨hX9_isSign.1, hX9_isSign.2.1, hX9_isSign.2.2, by decide⟩, mX9_79, vX9_isSign.1, vX9_isSign.2⟩ (ci := 9) rfl rfl rfl rfl (Nat.le_of_ble_eq_true rfl) hr ?_
  refine x_if_ne (pc := 8) 24 dX9_isFieldItem_8 (by decide) (fun c3 => ?_) (fun c3 => ?_)
  · replace h := h.1 c3
    exact h
  · replace h := h.2 c3
    refine x_aload_n (pc := 11) 0 dX9_isFieldItem_11 rfl rfl ?_
    refine x_bipush (pc := 12) (12 : Int32) dX9_isFieldItem_12 (by decide +kernel) ?_
    obtain ⟨x5, s4, hr, h⟩ := h
    refine x_callV (pc := 14) [(.int (12 : Int32))] [] dX9_isFieldItem_14 ⟨⟨hX9_pitches.1, hX9_pitches.2.1, hX9_pitches.2.2, by decide⟩, mX9_72, vX9_pitches.1, vX9_pitches.2⟩ (ci := 9) rfl rfl rfl rfl (Nat.le_of_ble_eq_true rfl) hr ?_
    refine x_istore_n (pc := 17) 1 dX9_isFieldItem_17 rfl (by decide) rfl ?_
    refine x_iload_n (pc := 18) 1 dX9_isFieldItem_18 rfl rfl ?_
    refine x_if_ne (pc := 19) 24 dX9_isFieldItem_19 (by decide) (fun c6 => ?_) (fun c6 => ?_)
    · replace h := h.1 c6
      exact h
    · replace h := h.2 c6
      refine x_iconst (pc := 22) (0 : Int32) dX9_isFieldItem_22 (by decide +kernel) ?_
      exact x_zreturn2 (pc := 23) dX9_isFieldItem_23 rfl rfl h.1 h.2
set_option maxRecDepth 20000 in
theorem t_X9_isFieldItem_24 {l1 : Int32} {σ : kS} {x : Int32} {τ : kS}  (h : vp_in ((8 : Int32) + (σ.1 6 2)) 38 ∧ (x = (1 : Int32) ∧ τ = (k_si (k_si σ 6 ((8 : Int32) + (σ.1 6 2)).toNatClampNeg l1) 6 2 (((k_si σ 6 ((8 : Int32) + (σ.1 6 2)).toNatClampNeg l1).1 6 2) + (1 : Int32))))) : E_X9_isFieldItem_24 l1 σ x τ := by
  unfold E_X9_isFieldItem_24
  refine x_aload_n (pc := 24) 0 dX9_isFieldItem_24 rfl rfl ?_
  refine x_getR (pc := 25) dX9_isFieldItem_25 fX9_26 rfl rfl ?_
  refine x_bipush (pc := 28) (8 : Int32) dX9_isFieldItem_28 (by decide +kernel) ?_
  refine x_aload_n (pc := 30) 0 dX9_isFieldItem_30 rfl rfl ?_
  refine x_getR (pc := 31) dX9_isFieldItem_31 fX9_26 rfl rfl ?_
  refine x_iconst (pc := 34) (2 : Int32) dX9_isFieldItem_34 (by decide +kernel) ?_
  refine x_ialoadK (pc := 35) (n := 38) 2 dX9_isFieldItem_35 rfl (by decide) (by decide +kernel) ?_
  refine x_iadd (pc := 36) dX9_isFieldItem_36 ?_
  refine x_iload_n (pc := 37) 1 dX9_isFieldItem_37 rfl rfl ?_
  obtain ⟨g1, h⟩ := h
  refine x_iastore (pc := 38) (n := 38) dX9_isFieldItem_38 rfl g1 ?_
  refine x_aload_n (pc := 39) 0 dX9_isFieldItem_39 rfl rfl ?_
  refine x_getR (pc := 40) dX9_isFieldItem_40 fX9_26 rfl rfl ?_
  refine x_iconst (pc := 43) (2 : Int32) dX9_isFieldItem_43 (by decide +kernel) ?_
  refine x_dup2 (pc := 44) dX9_isFieldItem_44 rfl rfl ?_
  refine x_ialoadK (pc := 45) (n := 38) 2 dX9_isFieldItem_45 rfl (by decide) (by decide +kernel) ?_
  refine x_iconst (pc := 46) (1 : Int32) dX9_isFieldItem_46 (by decide +kernel) ?_
  refine x_iadd (pc := 47) dX9_isFieldItem_47 ?_
  refine x_iastoreK (pc := 48) (n := 38) 2 dX9_isFieldItem_48 rfl (by decide) (by decide +kernel) ?_
  refine x_iconst (pc := 49) (1 : Int32) dX9_isFieldItem_49 (by decide +kernel) ?_
  exact x_zreturn2 (pc := 50) dX9_isFieldItem_50 rfl rfl h.1 h.2
theorem dX9_isSinger_0 : decode cX9_isSinger 0 = .ok (.aload_n 0, 1) := by decide +kernel
theorem dX9_isSinger_1 : decode cX9_isSinger 1 = .ok (.invokevirtual 65, 3) := by decide +kernel
theorem dX9_isSinger_4 : decode cX9_isSinger 4 = .ok (.invokestatic 83, 3) := by decide +kernel
theorem dX9_isSinger_7 : decode cX9_isSinger 7 = .ok (.istore_n 1, 1) := by decide +kernel
theorem dX9_isSinger_8 : decode cX9_isSinger 8 = .ok (.iload_n 1, 1) := by decide +kernel
theorem dX9_isSinger_9 : decode cX9_isSinger 9 = .ok (.ifCond .ne 5, 3) := by decide +kernel
theorem dX9_isSinger_12 : decode cX9_isSinger 12 = .ok (.iconst 0, 1) := by decide +kernel
theorem dX9_isSinger_13 : decode cX9_isSinger 13 = .ok (.ireturn, 1) := by decide +kernel
theorem dX9_isSinger_14 : decode cX9_isSinger 14 = .ok (.aload_n 0, 1) := by decide +kernel
theorem dX9_isSinger_15 : decode cX9_isSinger 15 = .ok (.dup, 1) := by decide +kernel
theorem dX9_isSinger_16 : decode cX9_isSinger 16 = .ok (.getfield 62, 3) := by decide +kernel
theorem dX9_isSinger_19 : decode cX9_isSinger 19 = .ok (.iconst 1, 1) := by decide +kernel
theorem dX9_isSinger_20 : decode cX9_isSinger 20 = .ok (.iadd, 1) := by decide +kernel
theorem dX9_isSinger_21 : decode cX9_isSinger 21 = .ok (.putfield 62, 3) := by decide +kernel
theorem dX9_isSinger_24 : decode cX9_isSinger 24 = .ok (.aload_n 0, 1) := by decide +kernel
theorem dX9_isSinger_25 : decode cX9_isSinger 25 = .ok (.invokevirtual 69, 3) := by decide +kernel
theorem dX9_isSinger_28 : decode cX9_isSinger 28 = .ok (.istore_n 2, 1) := by decide +kernel
theorem dX9_isSinger_29 : decode cX9_isSinger 29 = .ok (.iload_n 2, 1) := by decide +kernel
theorem dX9_isSinger_30 : decode cX9_isSinger 30 = .ok (.ifCond .ge 5, 3) := by decide +kernel
theorem dX9_isSinger_33 : decode cX9_isSinger 33 = .ok (.iconst 0, 1) := by decide +kernel
theorem dX9_isSinger_34 : decode cX9_isSinger 34 = .ok (.ireturn, 1) := by decide +kernel
theorem dX9_isSinger_35 : decode cX9_isSinger 35 = .ok (.aload_n 0, 1) := by decide +kernel
theorem dX9_isSinger_36 : decode cX9_isSinger 36 = .ok (.dup, 1) := by decide +kernel
theorem dX9_isSinger_37 : decode cX9_isSinger 37 = .ok (.getfield 62, 3) := by decide +kernel
theorem dX9_isSinger_40 : decode cX9_isSinger 40 = .ok (.iconst 1, 1) := by decide +kernel
theorem dX9_isSinger_41 : decode cX9_isSinger 41 = .ok (.iadd, 1) := by decide +kernel
theorem dX9_isSinger_42 : decode cX9_isSinger 42 = .ok (.putfield 62, 3) := by decide +kernel
theorem dX9_isSinger_45 : decode cX9_isSinger 45 = .ok (.aload_n 0, 1) := by decide +kernel
theorem dX9_isSinger_46 : decode cX9_isSinger 46 = .ok (.invokevirtual 69, 3) := by decide +kernel
theorem dX9_isSinger_49 : decode cX9_isSinger 49 = .ok (.istore_n 3, 1) := by decide +kernel
theorem dX9_isSinger_50 : decode cX9_isSinger 50 = .ok (.iload_n 3, 1) := by decide +kernel
theorem dX9_isSinger_51 : decode cX9_isSinger 51 = .ok (.iload_n 2, 1) := by decide +kernel
theorem dX9_isSinger_52 : decode cX9_isSinger 52 = .ok (.if_icmp .ge 5, 3) := by decide +kernel
theorem dX9_isSinger_55 : decode cX9_isSinger 55 = .ok (.iconst 0, 1) := by decide +kernel
theorem dX9_isSinger_56 : decode cX9_isSinger 56 = .ok (.ireturn, 1) := by decide +kernel
theorem dX9_isSinger_57 : decode cX9_isSinger 57 = .ok (.aload_n 0, 1) := by decide +kernel
theorem dX9_isSinger_58 : decode cX9_isSinger 58 = .ok (.dup, 1) := by decide +kernel
theorem dX9_isSinger_59 : decode cX9_isSinger 59 = .ok (.getfield 62, 3) := by decide +kernel
theorem dX9_isSinger_62 : decode cX9_isSinger 62 = .ok (.iconst 1, 1) := by decide +kernel
theorem dX9_isSinger_63 : decode cX9_isSinger 63 = .ok (.iadd, 1) := by decide +kernel
theorem dX9_isSinger_64 : decode cX9_isSinger 64 = .ok (.putfield 62, 3) := by decide +kernel
theorem dX9_isSinger_67 : decode cX9_isSinger 67 = .ok (.bipush (-4), 2) := by decide +kernel
theorem dX9_isSinger_69 : decode cX9_isSinger 69 = .ok (.istore 4, 2) := by decide +kernel
theorem dX9_isSinger_71 : decode cX9_isSinger 71 = .ok (.aload_n 0, 1) := by decide +kernel
theorem dX9_isSinger_72 : decode cX9_isSinger 72 = .ok (.bipush 45, 2) := by decide +kernel
theorem dX9_isSinger_74 : decode cX9_isSinger 74 = .ok (.invokevirtual 79, 3) := by decide +kernel
theorem dX9_isSinger_77 : decode cX9_isSinger 77 = .ok (.ifCond .ne 41, 3) := by decide +kernel
theorem dX9_isSinger_80 : decode cX9_isSinger 80 = .ok (.aload_n 0, 1) := by decide +kernel
theorem dX9_isSinger_81 : decode cX9_isSinger 81 = .ok (.invokevirtual 65, 3) := by decide +kernel
theorem dX9_isSinger_84 : decode cX9_isSinger 84 = .ok (.bipush 48, 2) := by decide +kernel
theorem dX9_isSinger_86 : decode cX9_isSinger 86 = .ok (.isub, 1) := by decide +kernel
theorem dX9_isSinger_87 : decode cX9_isSinger 87 = .ok (.istore 4, 2) := by decide +kernel
theorem dX9_isSinger_89 : decode cX9_isSinger 89 = .ok (.iload 4, 2) := by decide +kernel
theorem dX9_isSinger_91 : decode cX9_isSinger 91 = .ok (.iconst 0, 1) := by decide +kernel
theorem dX9_isSinger_92 : decode cX9_isSinger 92 = .ok (.aload_n 0, 1) := by decide +kernel
theorem dX9_isSinger_93 : decode cX9_isSinger 93 = .ok (.getfield 26, 3) := by decide +kernel
theorem dX9_isSinger_96 : decode cX9_isSinger 96 = .ok (.iconst 2, 1) := by decide +kernel
theorem dX9_isSinger_97 : decode cX9_isSinger 97 = .ok (.iaload, 1) := by decide +kernel
theorem dX9_isSinger_98 : decode cX9_isSinger 98 = .ok (.iconst 1, 1) := by decide +kernel
theorem dX9_isSinger_99 : decode cX9_isSinger 99 = .ok (.isub, 1) := by decide +kernel
theorem dX9_isSinger_100 : decode cX9_isSinger 100 = .ok (.invokestatic 54, 3) := by decide +kernel
theorem dX9_isSinger_103 : decode cX9_isSinger 103 = .ok (.ifCond .ne 5, 3) := by decide +kernel
theorem dX9_isSinger_106 : decode cX9_isSinger 106 = .ok (.iconst 0, 1) := by decide +kernel
theorem dX9_isSinger_107 : decode cX9_isSinger 107 = .ok (.ireturn, 1) := by decide +kernel
theorem dX9_isSinger_108 : decode cX9_isSinger 108 = .ok (.aload_n 0, 1) := by decide +kernel
theorem dX9_isSinger_109 : decode cX9_isSinger 109 = .ok (.dup, 1) := by decide +kernel
theorem dX9_isSinger_110 : decode cX9_isSinger 110 = .ok (.getfield 62, 3) := by decide +kernel
theorem dX9_isSinger_113 : decode cX9_isSinger 113 = .ok (.iconst 1, 1) := by decide +kernel
theorem dX9_isSinger_114 : decode cX9_isSinger 114 = .ok (.iadd, 1) := by decide +kernel
theorem dX9_isSinger_115 : decode cX9_isSinger 115 = .ok (.putfield 62, 3) := by decide +kernel
theorem dX9_isSinger_118 : decode cX9_isSinger 118 = .ok (.aload_n 0, 1) := by decide +kernel
theorem dX9_isSinger_119 : decode cX9_isSinger 119 = .ok (.getfield 26, 3) := by decide +kernel
theorem dX9_isSinger_122 : decode cX9_isSinger 122 = .ok (.iconst 3, 1) := by decide +kernel
theorem dX9_isSinger_123 : decode cX9_isSinger 123 = .ok (.iaload, 1) := by decide +kernel
theorem dX9_isSinger_124 : decode cX9_isSinger 124 = .ok (.istore 5, 2) := by decide +kernel
theorem dX9_isSinger_126 : decode cX9_isSinger 126 = .ok (.aload_n 0, 1) := by decide +kernel
theorem dX9_isSinger_127 : decode cX9_isSinger 127 = .ok (.getfield 26, 3) := by decide +kernel
theorem dX9_isSinger_130 : decode cX9_isSinger 130 = .ok (.bipush 13, 2) := by decide +kernel
theorem dX9_isSinger_132 : decode cX9_isSinger 132 = .ok (.iload 5, 2) := by decide +kernel
theorem dX9_isSinger_134 : decode cX9_isSinger 134 = .ok (.iadd, 1) := by decide +kernel
theorem dX9_isSinger_135 : decode cX9_isSinger 135 = .ok (.iload_n 1, 1) := by decide +kernel
theorem dX9_isSinger_136 : decode cX9_isSinger 136 = .ok (.iastore, 1) := by decide +kernel
theorem dX9_isSinger_137 : decode cX9_isSinger 137 = .ok (.aload_n 0, 1) := by decide +kernel
theorem dX9_isSinger_138 : decode cX9_isSinger 138 = .ok (.getfield 26, 3) := by decide +kernel
theorem dX9_isSinger_141 : decode cX9_isSinger 141 = .ok (.bipush 18, 2) := by decide +kernel
theorem dX9_isSinger_143 : decode cX9_isSinger 143 = .ok (.iload 5, 2) := by decide +kernel
theorem dX9_isSinger_145 : decode cX9_isSinger 145 = .ok (.iadd, 1) := by decide +kernel
theorem dX9_isSinger_146 : decode cX9_isSinger 146 = .ok (.iload_n 2, 1) := by decide +kernel
theorem dX9_isSinger_147 : decode cX9_isSinger 147 = .ok (.iastore, 1) := by decide +kernel
theorem dX9_isSinger_148 : decode cX9_isSinger 148 = .ok (.aload_n 0, 1) := by decide +kernel
theorem dX9_isSinger_149 : decode cX9_isSinger 149 = .ok (.getfield 26, 3) := by decide +kernel
theorem dX9_isSinger_152 : decode cX9_isSinger 152 = .ok (.bipush 23, 2) := by decide +kernel
theorem dX9_isSinger_154 : decode cX9_isSinger 154 = .ok (.iload 5, 2) := by decide +kernel
theorem dX9_isSinger_156 : decode cX9_isSinger 156 = .ok (.iadd, 1) := by decide +kernel
theorem dX9_isSinger_157 : decode cX9_isSinger 157 = .ok (.iload_n 3, 1) := by decide +kernel
theorem dX9_isSinger_158 : decode cX9_isSinger 158 = .ok (.iastore, 1) := by decide +kernel
theorem dX9_isSinger_159 : decode cX9_isSinger 159 = .ok (.aload_n 0, 1) := by decide +kernel
theorem dX9_isSinger_160 : decode cX9_isSinger 160 = .ok (.getfield 26, 3) := by decide +kernel
theorem dX9_isSinger_163 : decode cX9_isSinger 163 = .ok (.bipush 33, 2) := by decide +kernel
theorem dX9_isSinger_165 : decode cX9_isSinger 165 = .ok (.iload 5, 2) := by decide +kernel
theorem dX9_isSinger_167 : decode cX9_isSinger 167 = .ok (.iadd, 1) := by decide +kernel
theorem dX9_isSinger_168 : decode cX9_isSinger 168 = .ok (.iload 4, 2) := by decide +kernel
theorem dX9_isSinger_170 : decode cX9_isSinger 170 = .ok (.iastore, 1) := by decide +kernel
theorem dX9_isSinger_171 : decode cX9_isSinger 171 = .ok (.aload_n 0, 1) := by decide +kernel
theorem dX9_isSinger_172 : decode cX9_isSinger 172 = .ok (.getfield 26, 3) := by decide +kernel
theorem dX9_isSinger_175 : decode cX9_isSinger 175 = .ok (.iconst 3, 1) := by decide +kernel
theorem dX9_isSinger_176 : decode cX9_isSinger 176 = .ok (.dup2, 1) := by decide +kernel
theorem dX9_isSinger_177 : decode cX9_isSinger 177 = .ok (.iaload, 1) := by decide +kernel
theorem dX9_isSinger_178 : decode cX9_isSinger 178 = .ok (.iconst 1, 1) := by decide +kernel
theorem dX9_isSinger_179 : decode cX9_isSinger 179 = .ok (.iadd, 1) := by decide +kernel
theorem dX9_isSinger_180 : decode cX9_isSinger 180 = .ok (.iastore, 1) := by decide +kernel
theorem dX9_isSinger_181 : decode cX9_isSinger 181 = .ok (.iconst 1, 1) := by decide +kernel
theorem dX9_isSinger_182 : decode cX9_isSinger 182 = .ok (.ireturn, 1) := by decide +kernel
def R_X9_isSinger  (σ : kS) (x : Int32) (τ : kS) : Prop := Run SM jX9_isSinger [(.ref 0)] σ (some (.int x)) τ
def E_X9_isSinger_118 (l1 : Int32) (l2 : Int32) (l3 : Int32) (l4 : Int32) (σ : kS) (x : Int32) (τ : kS) : Prop := Ex SM jX9_isSinger 118 [some (.ref 0), some (.int l1), some (.int l2), some (.int l3), some (.int l4), none] [] σ (some (.int x)) τ
set_option maxRecDepth 20000 in
theorem t_X9_isSinger  {σ : kS} {x : Int32} {τ : kS}  (h : ∃ (x2 : Int32) (s1 : kS), R_X9_peek  σ x2 s1 ∧ (∃ (x4 : Int32) (s3 : kS), R_X9_kindBy x2 s1 x4 s3 ∧ ((¬ x4 = 0 → ∃ (x7 : Int32) (s6 : kS), R_X9_pitchThere  (k_si s3 0 5 ((s3.1 0 5) + (1 : Int32))) x7 s6 ∧ ((0 ≤ x7 → ∃ (x10 : Int32) (s9 : kS), R_X9_pitchThere  (k_si s6 0 5 ((s6.1 0 5) + (1 : Int32))) x10 s9 ∧ ((x7 ≤ x10 → ∃ (x13 : Int32) (s12 : kS), R_X9_isSign (45 : Int32) (k_si s9 0 5 ((s9.1 0 5) + (1 : Int32))) x13 s12 ∧ ((¬ x13 = 0 → E_X9_isSinger_118 x4 x7 x10 (-4 : Int32) s12 x τ) ∧ (x13 = 0 → ∃ (x16 : Int32) (s15 : kS), R_X9_peek  s12 x16 s15 ∧ (((iv (x16 - (48 : Int32)) (0 : Int32) ((s15.1 6 2) - (1 : Int32))) → E_X9_isSinger_118 x4 x7 x10 (x16 - (48 : Int32)) (k_si s15 0 5 ((s15.1 0 5) + (1 : Int32))) x τ) ∧ (¬ (iv (x16 - (48 : Int32)) (0 : Int32) ((s15.1 6 2) - (1 : Int32))) → x = (0 : Int32) ∧ τ = s15))))) ∧ (¬ x7 ≤ x10 → x = (0 : Int32) ∧ τ = s9))) ∧ (¬ 0 ≤ x7 → x = (0 : Int32) ∧ τ = s6))) ∧ (x4 = 0 → x = (0 : Int32) ∧ τ = s3)))) : R_X9_isSinger  σ x τ := by
  refine x_run [some (.ref 0), none, none, none, none, none] (by decide +kernel) rfl (Nat.le_of_ble_eq_true rfl) ?_
  refine x_aload_n (pc := 0) 0 dX9_isSinger_0 rfl rfl ?_
  obtain ⟨x2, s1, hr, h⟩ := h
  refine x_callV (pc := 1) [] [] dX9_isSinger_1 ⟨⟨hX9_peek.1, hX9_peek.2.1, hX9_peek.2.2, by decide⟩, mX9_65, vX9_peek.1, vX9_peek.2⟩ (ci := 9) rfl rfl rfl rfl (Nat.le_of_ble_eq_true rfl) hr ?_
  obtain ⟨x4, s3, hr, h⟩ := h
  refine x_callS (pc := 4) [(.int x2)] [] dX9_isSinger_4 ⟨⟨hX9_kindBy.1, hX9_kindBy.2.1, hX9_kindBy.2.2, by decide⟩, mX9_83, sX9_kindBy⟩ rfl rfl (Nat.le_of_ble_eq_true rfl) hr ?_
  refine x_istore_n (pc := 7) 1 dX9_isSinger_7 rfl (by decide) rfl ?_
  refine x_iload_n (pc := 8) 1 dX9_isSinger_8 rfl rfl ?_
  refine x_if_ne (pc := 9) 14 dX9_isSinger_9 (by decide) (fun c5 => ?_) (fun c5 => ?_)
  · replace h := h.1 c5
    refine x_aload_n (pc := 14) 0 dX9_isSinger_14 rfl rfl ?_
    refine x_dup (pc := 15) dX9_isSinger_15 rfl ?_
    refine x_getI (pc := 16) dX9_isSinger_16 fX9_62 rfl rfl ?_
    refine x_iconst (pc := 19) (1 : Int32) dX9_isSinger_19 (by decide +kernel) ?_
    refine x_iadd (pc := 20) dX9_isSinger_20 ?_
    refine x_putI (pc := 21) dX9_isSinger_21 pX9_62 rfl rfl ?_
    refine x_aload_n (pc := 24) 0 dX9_isSinger_24 rfl rfl ?_
    obtain ⟨x7, s6, hr, h⟩ := h
    refine x_callV (pc := 25) [] [] dX9_isSinger_25 ⟨⟨hX9_pitchThere.1, hX9_pitchThere.2.1, hX9_pitchThere.2.2, by decide⟩, mX9_69, vX9_pitchThere.1, vX9_pitchThere.2⟩ (ci := 9) rfl rfl rfl rfl (Nat.le_of_ble_eq_true rfl) hr ?_
    refine x_istore_n (pc := 28) 2 dX9_isSinger_28 rfl (by decide) rfl ?_
    refine x_iload_n (pc := 29) 2 dX9_isSinger_29 rfl rfl ?_
    refine x_if_ge (pc := 30) 35 dX9_isSinger_30 (by decide) (fun c8 => ?_) (fun c8 => ?_)
    · replace h := h.1 c8
      refine x_aload_n (pc := 35) 0 dX9_isSinger_35 rfl rfl ?_
      refine x_dup (pc := 36) dX9_isSinger_36 rfl ?_
      refine x_getI (pc := 37) dX9_isSinger_37 fX9_62 rfl rfl ?_
      refine x_iconst (pc := 40) (1 : Int32) dX9_isSinger_40 (by decide +kernel) ?_
      refine x_iadd (pc := 41) dX9_isSinger_41 ?_
      refine x_putI (pc := 42) dX9_isSinger_42 pX9_62 rfl rfl ?_
      refine x_aload_n (pc := 45) 0 dX9_isSinger_45 rfl rfl ?_
      obtain ⟨x10, s9, hr, h⟩ := h
      refine x_callV (pc := 46) [] [] dX9_isSinger_46 ⟨⟨hX9_pitchThere.1, hX9_pitchThere.2.1, hX9_pitchThere.2.2, by decide⟩, mX9_69, vX9_pitchThere.1, vX9_pitchThere.2⟩ (ci := 9) rfl rfl rfl rfl (Nat.le_of_ble_eq_true rfl) hr ?_
      refine x_istore_n (pc := 49) 3 dX9_isSinger_49 rfl (by decide) rfl ?_
      refine x_iload_n (pc := 50) 3 dX9_isSinger_50 rfl rfl ?_
      refine x_iload_n (pc := 51) 2 dX9_isSinger_51 rfl rfl ?_
      refine x_icmp_ge (pc := 52) 57 dX9_isSinger_52 (by decide) (fun c11 => ?_) (fun c11 => ?_)
      · replace h := h.1 c11
        refine x_aload_n (pc := 57) 0 dX9_isSinger_57 rfl rfl ?_
        refine x_dup (pc := 58) dX9_isSinger_58 rfl ?_
        refine x_getI (pc := 59) dX9_isSinger_59 fX9_62 rfl rfl ?_
        refine x_iconst (pc := 62) (1 : Int32) dX9_isSinger_62 (by decide +kernel) ?_
        refine x_iadd (pc := 63) dX9_isSinger_63 ?_
        refine x_putI (pc := 64) dX9_isSinger_64 pX9_62 rfl rfl ?_
        refine x_bipush (pc := 67) (-4 : Int32) dX9_isSinger_67 (by decide +kernel) ?_
        refine x_istore (pc := 69) dX9_isSinger_69 (by decide) rfl ?_
        refine x_aload_n (pc := 71) 0 dX9_isSinger_71 rfl rfl ?_
        refine x_bipush (pc := 72) (45 : Int32) dX9_isSinger_72 (by decide +kernel) ?_
        obtain ⟨x13, s12, hr, h⟩ := h
        refine x_callV (pc := 74) [(.int (45 : Int32))] [] dX9_isSinger_74 ⟨⟨hX9_isSign.1, hX9_isSign.2.1, hX9_isSign.2.2, by decide⟩, mX9_79, vX9_isSign.1, vX9_isSign.2⟩ (ci := 9) rfl rfl rfl rfl (Nat.le_of_ble_eq_true rfl) hr ?_
        refine x_if_ne (pc := 77) 118 dX9_isSinger_77 (by decide) (fun c14 => ?_) (fun c14 => ?_)
        · replace h := h.1 c14
          exact h
        · replace h := h.2 c14
          refine x_aload_n (pc := 80) 0 dX9_isSinger_80 rfl rfl ?_
          obtain ⟨x16, s15, hr, h⟩ := h
          refine x_callV (pc := 81) [] [] dX9_isSinger_81 ⟨⟨hX9_peek.1, hX9_peek.2.1, hX9_peek.2.2, by decide⟩, mX9_65, vX9_peek.1, vX9_peek.2⟩ (ci := 9) rfl rfl rfl rfl (Nat.le_of_ble_eq_true rfl) hr ?_
          refine x_bipush (pc := 84) (48 : Int32) dX9_isSinger_84 (by decide +kernel) ?_
          refine x_isub (pc := 86) dX9_isSinger_86 ?_
          refine x_istore (pc := 87) dX9_isSinger_87 (by decide) rfl ?_
          refine x_iload (pc := 89) dX9_isSinger_89 rfl ?_
          refine x_iconst (pc := 91) (0 : Int32) dX9_isSinger_91 (by decide +kernel) ?_
          refine x_aload_n (pc := 92) 0 dX9_isSinger_92 rfl rfl ?_
          refine x_getR (pc := 93) dX9_isSinger_93 fX9_26 rfl rfl ?_
          refine x_iconst (pc := 96) (2 : Int32) dX9_isSinger_96 (by decide +kernel) ?_
          refine x_ialoadK (pc := 97) (n := 38) 2 dX9_isSinger_97 rfl (by decide) (by decide +kernel) ?_
          refine x_iconst (pc := 98) (1 : Int32) dX9_isSinger_98 (by decide +kernel) ?_
          refine x_isub (pc := 99) dX9_isSinger_99 ?_
          refine x_callS (pc := 100) [(.int (x16 - (48 : Int32))), (.int (0 : Int32)), (.int ((s15.1 6 2) - (1 : Int32)))] [] dX9_isSinger_100 ⟨⟨hX9_in.1, hX9_in.2.1, hX9_in.2.2, by decide⟩, mX9_54, sX9_in⟩ rfl rfl (Nat.le_of_ble_eq_true rfl) (i_X9_in) ?_
          refine x_bif_ne (pc := 103) 108 dX9_isSinger_103 (by decide) (fun c17 => ?_) (fun c17 => ?_)
          · replace h := h.1 c17
            refine x_aload_n (pc := 108) 0 dX9_isSinger_108 rfl rfl ?_
            refine x_dup (pc := 109) dX9_isSinger_109 rfl ?_
            refine x_getI (pc := 110) dX9_isSinger_110 fX9_62 rfl rfl ?_
            refine x_iconst (pc := 113) (1 : Int32) dX9_isSinger_113 (by decide +kernel) ?_
            refine x_iadd (pc := 114) dX9_isSinger_114 ?_
            refine x_putI (pc := 115) dX9_isSinger_115 pX9_62 rfl rfl ?_
            exact h
          · replace h := h.2 c17
            refine x_iconst (pc := 106) (0 : Int32) dX9_isSinger_106 (by decide +kernel) ?_
            exact x_zreturn2 (pc := 107) dX9_isSinger_107 rfl rfl h.1 h.2
      · replace h := h.2 c11
        refine x_iconst (pc := 55) (0 : Int32) dX9_isSinger_55 (by decide +kernel) ?_
        exact x_zreturn2 (pc := 56) dX9_isSinger_56 rfl rfl h.1 h.2
    · replace h := h.2 c8
      refine x_iconst (pc := 33) (0 : Int32) dX9_isSinger_33 (by decide +kernel) ?_
      exact x_zreturn2 (pc := 34) dX9_isSinger_34 rfl rfl h.1 h.2
  · replace h := h.2 c5
    refine x_iconst (pc := 12) (0 : Int32) dX9_isSinger_12 (by decide +kernel) ?_
    exact x_zreturn2 (pc := 13) dX9_isSinger_13 rfl rfl h.1 h.2
set_option maxRecDepth 20000 in
theorem t_X9_isSinger_118 {l1 : Int32} {l2 : Int32} {l3 : Int32} {l4 : Int32} {σ : kS} {x : Int32} {τ : kS}  (h : vp_in ((13 : Int32) + (σ.1 6 3)) 38 ∧ (vp_in ((18 : Int32) + (σ.1 6 3)) 38 ∧ (vp_in ((23 : Int32) + (σ.1 6 3)) 38 ∧ (vp_in ((33 : Int32) + (σ.1 6 3)) 38 ∧ (x = (1 : Int32) ∧ τ = (k_si (k_si (k_si (k_si (k_si σ 6 ((13 : Int32) + (σ.1 6 3)).toNatClampNeg l1) 6 ((18 : Int32) + (σ.1 6 3)).toNatClampNeg l2) 6 ((23 : Int32) + (σ.1 6 3)).toNatClampNeg l3) 6 ((33 : Int32) + (σ.1 6 3)).toNatClampNeg l4) 6 3 (((k_si (k_si (k_si (k_si σ 6 ((13 : Int32) + (σ.1 6 3)).toNatClampNeg l1) 6 ((18 : Int32) + (σ.1 6 3)).toNatClampNeg l2) 6 ((23 : Int32) + (σ.1 6 3)).toNatClampNeg l3) 6 ((33 : Int32) + (σ.1 6 3)).toNatClampNeg l4).1 6 3) + (1 : Int32)))))))) : E_X9_isSinger_118 l1 l2 l3 l4 σ x τ := by
  unfold E_X9_isSinger_118
  refine x_aload_n (pc := 118) 0 dX9_isSinger_118 rfl rfl ?_
  refine x_getR (pc := 119) dX9_isSinger_119 fX9_26 rfl rfl ?_
  refine x_iconst (pc := 122) (3 : Int32) dX9_isSinger_122 (by decide +kernel) ?_
  refine x_ialoadK (pc := 123) (n := 38) 3 dX9_isSinger_123 rfl (by decide) (by decide +kernel) ?_
  refine x_istore (pc := 124) dX9_isSinger_124 (by decide) rfl ?_
  refine x_aload_n (pc := 126) 0 dX9_isSinger_126 rfl rfl ?_
  refine x_getR (pc := 127) dX9_isSinger_127 fX9_26 rfl rfl ?_
  refine x_bipush (pc := 130) (13 : Int32) dX9_isSinger_130 (by decide +kernel) ?_
  refine x_iload (pc := 132) dX9_isSinger_132 rfl ?_
  refine x_iadd (pc := 134) dX9_isSinger_134 ?_
  refine x_iload_n (pc := 135) 1 dX9_isSinger_135 rfl rfl ?_
  obtain ⟨g1, h⟩ := h
  refine x_iastore (pc := 136) (n := 38) dX9_isSinger_136 rfl g1 ?_
  refine x_aload_n (pc := 137) 0 dX9_isSinger_137 rfl rfl ?_
  refine x_getR (pc := 138) dX9_isSinger_138 fX9_26 rfl rfl ?_
  refine x_bipush (pc := 141) (18 : Int32) dX9_isSinger_141 (by decide +kernel) ?_
  refine x_iload (pc := 143) dX9_isSinger_143 rfl ?_
  refine x_iadd (pc := 145) dX9_isSinger_145 ?_
  refine x_iload_n (pc := 146) 2 dX9_isSinger_146 rfl rfl ?_
  obtain ⟨g2, h⟩ := h
  refine x_iastore (pc := 147) (n := 38) dX9_isSinger_147 rfl g2 ?_
  refine x_aload_n (pc := 148) 0 dX9_isSinger_148 rfl rfl ?_
  refine x_getR (pc := 149) dX9_isSinger_149 fX9_26 rfl rfl ?_
  refine x_bipush (pc := 152) (23 : Int32) dX9_isSinger_152 (by decide +kernel) ?_
  refine x_iload (pc := 154) dX9_isSinger_154 rfl ?_
  refine x_iadd (pc := 156) dX9_isSinger_156 ?_
  refine x_iload_n (pc := 157) 3 dX9_isSinger_157 rfl rfl ?_
  obtain ⟨g3, h⟩ := h
  refine x_iastore (pc := 158) (n := 38) dX9_isSinger_158 rfl g3 ?_
  refine x_aload_n (pc := 159) 0 dX9_isSinger_159 rfl rfl ?_
  refine x_getR (pc := 160) dX9_isSinger_160 fX9_26 rfl rfl ?_
  refine x_bipush (pc := 163) (33 : Int32) dX9_isSinger_163 (by decide +kernel) ?_
  refine x_iload (pc := 165) dX9_isSinger_165 rfl ?_
  refine x_iadd (pc := 167) dX9_isSinger_167 ?_
  refine x_iload (pc := 168) dX9_isSinger_168 rfl ?_
  obtain ⟨g4, h⟩ := h
  refine x_iastore (pc := 170) (n := 38) dX9_isSinger_170 rfl g4 ?_
  refine x_aload_n (pc := 171) 0 dX9_isSinger_171 rfl rfl ?_
  refine x_getR (pc := 172) dX9_isSinger_172 fX9_26 rfl rfl ?_
  refine x_iconst (pc := 175) (3 : Int32) dX9_isSinger_175 (by decide +kernel) ?_
  refine x_dup2 (pc := 176) dX9_isSinger_176 rfl rfl ?_
  refine x_ialoadK (pc := 177) (n := 38) 3 dX9_isSinger_177 rfl (by decide) (by decide +kernel) ?_
  refine x_iconst (pc := 178) (1 : Int32) dX9_isSinger_178 (by decide +kernel) ?_
  refine x_iadd (pc := 179) dX9_isSinger_179 ?_
  refine x_iastoreK (pc := 180) (n := 38) 3 dX9_isSinger_180 rfl (by decide) (by decide +kernel) ?_
  refine x_iconst (pc := 181) (1 : Int32) dX9_isSinger_181 (by decide +kernel) ?_
  exact x_zreturn2 (pc := 182) dX9_isSinger_182 rfl rfl h.1 h.2
theorem dX9_isRead_0 : decode cX9_isRead 0 = .ok (.iconst 0, 1) := by decide +kernel
theorem dX9_isRead_1 : decode cX9_isRead 1 = .ok (.istore_n 1, 1) := by decide +kernel
theorem dX9_isRead_2 : decode cX9_isRead 2 = .ok (.iload_n 1, 1) := by decide +kernel
theorem dX9_isRead_3 : decode cX9_isRead 3 = .ok (.bipush 38, 2) := by decide +kernel
theorem dX9_isRead_5 : decode cX9_isRead 5 = .ok (.if_icmp .ge 16, 3) := by decide +kernel
theorem dX9_isRead_8 : decode cX9_isRead 8 = .ok (.aload_n 0, 1) := by decide +kernel
theorem dX9_isRead_9 : decode cX9_isRead 9 = .ok (.getfield 26, 3) := by decide +kernel
theorem dX9_isRead_12 : decode cX9_isRead 12 = .ok (.iload_n 1, 1) := by decide +kernel
theorem dX9_isRead_13 : decode cX9_isRead 13 = .ok (.iconst 0, 1) := by decide +kernel
theorem dX9_isRead_14 : decode cX9_isRead 14 = .ok (.iastore, 1) := by decide +kernel
theorem dX9_isRead_15 : decode cX9_isRead 15 = .ok (.iinc 1 1, 3) := by decide +kernel
theorem dX9_isRead_18 : decode cX9_isRead 18 = .ok (.goto (-16), 3) := by decide +kernel
theorem dX9_isRead_21 : decode cX9_isRead 21 = .ok (.aload_n 0, 1) := by decide +kernel
theorem dX9_isRead_22 : decode cX9_isRead 22 = .ok (.iconst 0, 1) := by decide +kernel
theorem dX9_isRead_23 : decode cX9_isRead 23 = .ok (.putfield 62, 3) := by decide +kernel
theorem dX9_isRead_26 : decode cX9_isRead 26 = .ok (.aload_n 0, 1) := by decide +kernel
theorem dX9_isRead_27 : decode cX9_isRead 27 = .ok (.bipush 109, 2) := by decide +kernel
theorem dX9_isRead_29 : decode cX9_isRead 29 = .ok (.invokevirtual 79, 3) := by decide +kernel
theorem dX9_isRead_32 : decode cX9_isRead 32 = .ok (.ifCond .ne 5, 3) := by decide +kernel
theorem dX9_isRead_35 : decode cX9_isRead 35 = .ok (.iconst 0, 1) := by decide +kernel
theorem dX9_isRead_36 : decode cX9_isRead 36 = .ok (.ireturn, 1) := by decide +kernel
theorem dX9_isRead_37 : decode cX9_isRead 37 = .ok (.iconst 1, 1) := by decide +kernel
theorem dX9_isRead_38 : decode cX9_isRead 38 = .ok (.istore_n 1, 1) := by decide +kernel
theorem dX9_isRead_39 : decode cX9_isRead 39 = .ok (.iload_n 1, 1) := by decide +kernel
theorem dX9_isRead_40 : decode cX9_isRead 40 = .ok (.ifCond .eq 40, 3) := by decide +kernel
theorem dX9_isRead_43 : decode cX9_isRead 43 = .ok (.aload_n 0, 1) := by decide +kernel
theorem dX9_isRead_44 : decode cX9_isRead 44 = .ok (.invokevirtual 86, 3) := by decide +kernel
theorem dX9_isRead_47 : decode cX9_isRead 47 = .ok (.ifCond .ne 5, 3) := by decide +kernel
theorem dX9_isRead_50 : decode cX9_isRead 50 = .ok (.iconst 0, 1) := by decide +kernel
theorem dX9_isRead_51 : decode cX9_isRead 51 = .ok (.ireturn, 1) := by decide +kernel
theorem dX9_isRead_52 : decode cX9_isRead 52 = .ok (.aload_n 0, 1) := by decide +kernel
theorem dX9_isRead_53 : decode cX9_isRead 53 = .ok (.getfield 26, 3) := by decide +kernel
theorem dX9_isRead_56 : decode cX9_isRead 56 = .ok (.iconst 1, 1) := by decide +kernel
theorem dX9_isRead_57 : decode cX9_isRead 57 = .ok (.iaload, 1) := by decide +kernel
theorem dX9_isRead_58 : decode cX9_isRead 58 = .ok (.iconst 4, 1) := by decide +kernel
theorem dX9_isRead_59 : decode cX9_isRead 59 = .ok (.if_icmp .ge 16, 3) := by decide +kernel
theorem dX9_isRead_62 : decode cX9_isRead 62 = .ok (.aload_n 0, 1) := by decide +kernel
theorem dX9_isRead_63 : decode cX9_isRead 63 = .ok (.bipush 44, 2) := by decide +kernel
theorem dX9_isRead_65 : decode cX9_isRead 65 = .ok (.invokevirtual 79, 3) := by decide +kernel
theorem dX9_isRead_68 : decode cX9_isRead 68 = .ok (.ifCond .eq 7, 3) := by decide +kernel
theorem dX9_isRead_71 : decode cX9_isRead 71 = .ok (.iconst 1, 1) := by decide +kernel
theorem dX9_isRead_72 : decode cX9_isRead 72 = .ok (.goto 4, 3) := by decide +kernel
theorem dX9_isRead_75 : decode cX9_isRead 75 = .ok (.iconst 0, 1) := by decide +kernel
theorem dX9_isRead_76 : decode cX9_isRead 76 = .ok (.istore_n 1, 1) := by decide +kernel
theorem dX9_isRead_77 : decode cX9_isRead 77 = .ok (.goto (-38), 3) := by decide +kernel
theorem dX9_isRead_80 : decode cX9_isRead 80 = .ok (.aload_n 0, 1) := by decide +kernel
theorem dX9_isRead_81 : decode cX9_isRead 81 = .ok (.bipush 59, 2) := by decide +kernel
theorem dX9_isRead_83 : decode cX9_isRead 83 = .ok (.invokevirtual 79, 3) := by decide +kernel
theorem dX9_isRead_86 : decode cX9_isRead 86 = .ok (.ifCond .ne 5, 3) := by decide +kernel
theorem dX9_isRead_89 : decode cX9_isRead 89 = .ok (.iconst 0, 1) := by decide +kernel
theorem dX9_isRead_90 : decode cX9_isRead 90 = .ok (.ireturn, 1) := by decide +kernel
theorem dX9_isRead_91 : decode cX9_isRead 91 = .ok (.iconst 1, 1) := by decide +kernel
theorem dX9_isRead_92 : decode cX9_isRead 92 = .ok (.istore_n 1, 1) := by decide +kernel
theorem dX9_isRead_93 : decode cX9_isRead 93 = .ok (.iload_n 1, 1) := by decide +kernel
theorem dX9_isRead_94 : decode cX9_isRead 94 = .ok (.ifCond .eq 40, 3) := by decide +kernel
theorem dX9_isRead_97 : decode cX9_isRead 97 = .ok (.aload_n 0, 1) := by decide +kernel
theorem dX9_isRead_98 : decode cX9_isRead 98 = .ok (.invokevirtual 90, 3) := by decide +kernel
theorem dX9_isRead_101 : decode cX9_isRead 101 = .ok (.ifCond .ne 5, 3) := by decide +kernel
theorem dX9_isRead_104 : decode cX9_isRead 104 = .ok (.iconst 0, 1) := by decide +kernel
theorem dX9_isRead_105 : decode cX9_isRead 105 = .ok (.ireturn, 1) := by decide +kernel
theorem dX9_isRead_106 : decode cX9_isRead 106 = .ok (.aload_n 0, 1) := by decide +kernel
theorem dX9_isRead_107 : decode cX9_isRead 107 = .ok (.getfield 26, 3) := by decide +kernel
theorem dX9_isRead_110 : decode cX9_isRead 110 = .ok (.iconst 2, 1) := by decide +kernel
theorem dX9_isRead_111 : decode cX9_isRead 111 = .ok (.iaload, 1) := by decide +kernel
theorem dX9_isRead_112 : decode cX9_isRead 112 = .ok (.iconst 5, 1) := by decide +kernel
theorem dX9_isRead_113 : decode cX9_isRead 113 = .ok (.if_icmp .ge 16, 3) := by decide +kernel
theorem dX9_isRead_116 : decode cX9_isRead 116 = .ok (.aload_n 0, 1) := by decide +kernel
theorem dX9_isRead_117 : decode cX9_isRead 117 = .ok (.bipush 44, 2) := by decide +kernel
theorem dX9_isRead_119 : decode cX9_isRead 119 = .ok (.invokevirtual 79, 3) := by decide +kernel
theorem dX9_isRead_122 : decode cX9_isRead 122 = .ok (.ifCond .eq 7, 3) := by decide +kernel
theorem dX9_isRead_125 : decode cX9_isRead 125 = .ok (.iconst 1, 1) := by decide +kernel
theorem dX9_isRead_126 : decode cX9_isRead 126 = .ok (.goto 4, 3) := by decide +kernel
theorem dX9_isRead_129 : decode cX9_isRead 129 = .ok (.iconst 0, 1) := by decide +kernel
theorem dX9_isRead_130 : decode cX9_isRead 130 = .ok (.istore_n 1, 1) := by decide +kernel
theorem dX9_isRead_131 : decode cX9_isRead 131 = .ok (.goto (-38), 3) := by decide +kernel
theorem dX9_isRead_134 : decode cX9_isRead 134 = .ok (.aload_n 0, 1) := by decide +kernel
theorem dX9_isRead_135 : decode cX9_isRead 135 = .ok (.bipush 59, 2) := by decide +kernel
theorem dX9_isRead_137 : decode cX9_isRead 137 = .ok (.invokevirtual 79, 3) := by decide +kernel
theorem dX9_isRead_140 : decode cX9_isRead 140 = .ok (.ifCond .ne 5, 3) := by decide +kernel
theorem dX9_isRead_143 : decode cX9_isRead 143 = .ok (.iconst 0, 1) := by decide +kernel
theorem dX9_isRead_144 : decode cX9_isRead 144 = .ok (.ireturn, 1) := by decide +kernel
theorem dX9_isRead_145 : decode cX9_isRead 145 = .ok (.iconst 1, 1) := by decide +kernel
theorem dX9_isRead_146 : decode cX9_isRead 146 = .ok (.istore_n 1, 1) := by decide +kernel
theorem dX9_isRead_147 : decode cX9_isRead 147 = .ok (.iload_n 1, 1) := by decide +kernel
theorem dX9_isRead_148 : decode cX9_isRead 148 = .ok (.ifCond .eq 40, 3) := by decide +kernel
theorem dX9_isRead_151 : decode cX9_isRead 151 = .ok (.aload_n 0, 1) := by decide +kernel
theorem dX9_isRead_152 : decode cX9_isRead 152 = .ok (.invokevirtual 93, 3) := by decide +kernel
theorem dX9_isRead_155 : decode cX9_isRead 155 = .ok (.ifCond .ne 5, 3) := by decide +kernel
theorem dX9_isRead_158 : decode cX9_isRead 158 = .ok (.iconst 0, 1) := by decide +kernel
theorem dX9_isRead_159 : decode cX9_isRead 159 = .ok (.ireturn, 1) := by decide +kernel
theorem dX9_isRead_160 : decode cX9_isRead 160 = .ok (.aload_n 0, 1) := by decide +kernel
theorem dX9_isRead_161 : decode cX9_isRead 161 = .ok (.getfield 26, 3) := by decide +kernel
theorem dX9_isRead_164 : decode cX9_isRead 164 = .ok (.iconst 3, 1) := by decide +kernel
theorem dX9_isRead_165 : decode cX9_isRead 165 = .ok (.iaload, 1) := by decide +kernel
theorem dX9_isRead_166 : decode cX9_isRead 166 = .ok (.iconst 5, 1) := by decide +kernel
theorem dX9_isRead_167 : decode cX9_isRead 167 = .ok (.if_icmp .ge 16, 3) := by decide +kernel
theorem dX9_isRead_170 : decode cX9_isRead 170 = .ok (.aload_n 0, 1) := by decide +kernel
theorem dX9_isRead_171 : decode cX9_isRead 171 = .ok (.bipush 44, 2) := by decide +kernel
theorem dX9_isRead_173 : decode cX9_isRead 173 = .ok (.invokevirtual 79, 3) := by decide +kernel
theorem dX9_isRead_176 : decode cX9_isRead 176 = .ok (.ifCond .eq 7, 3) := by decide +kernel
theorem dX9_isRead_179 : decode cX9_isRead 179 = .ok (.iconst 1, 1) := by decide +kernel
theorem dX9_isRead_180 : decode cX9_isRead 180 = .ok (.goto 4, 3) := by decide +kernel
theorem dX9_isRead_183 : decode cX9_isRead 183 = .ok (.iconst 0, 1) := by decide +kernel
theorem dX9_isRead_184 : decode cX9_isRead 184 = .ok (.istore_n 1, 1) := by decide +kernel
theorem dX9_isRead_185 : decode cX9_isRead 185 = .ok (.goto (-38), 3) := by decide +kernel
theorem dX9_isRead_188 : decode cX9_isRead 188 = .ok (.aload_n 0, 1) := by decide +kernel
theorem dX9_isRead_189 : decode cX9_isRead 189 = .ok (.getfield 62, 3) := by decide +kernel
theorem dX9_isRead_192 : decode cX9_isRead 192 = .ok (.aload_n 0, 1) := by decide +kernel
theorem dX9_isRead_193 : decode cX9_isRead 193 = .ok (.getfield 58, 3) := by decide +kernel
theorem dX9_isRead_196 : decode cX9_isRead 196 = .ok (.if_icmp .ne 7, 3) := by decide +kernel
theorem dX9_isRead_199 : decode cX9_isRead 199 = .ok (.iconst 1, 1) := by decide +kernel
theorem dX9_isRead_200 : decode cX9_isRead 200 = .ok (.goto 4, 3) := by decide +kernel
theorem dX9_isRead_203 : decode cX9_isRead 203 = .ok (.iconst 0, 1) := by decide +kernel
theorem dX9_isRead_204 : decode cX9_isRead 204 = .ok (.ireturn, 1) := by decide +kernel
def R_X9_isRead  (σ : kS) (x : Int32) (τ : kS) : Prop := Run SM jX9_isRead [(.ref 0)] σ (some (.int x)) τ
def E_X9_isRead_2 (l1 : Int32) (σ : kS) (x : Int32) (τ : kS) : Prop := Ex SM jX9_isRead 2 [some (.ref 0), some (.int l1)] [] σ (some (.int x)) τ
def E_X9_isRead_39 (l1 : Int32) (σ : kS) (x : Int32) (τ : kS) : Prop := Ex SM jX9_isRead 39 [some (.ref 0), some (.int l1)] [] σ (some (.int x)) τ
def E_X9_isRead_93 (l1 : Int32) (σ : kS) (x : Int32) (τ : kS) : Prop := Ex SM jX9_isRead 93 [some (.ref 0), some (.int l1)] [] σ (some (.int x)) τ
def E_X9_isRead_147 (l1 : Int32) (σ : kS) (x : Int32) (τ : kS) : Prop := Ex SM jX9_isRead 147 [some (.ref 0), some (.int l1)] [] σ (some (.int x)) τ
set_option maxRecDepth 20000 in
theorem t_X9_isRead  {σ : kS} {x : Int32} {τ : kS}  (h : E_X9_isRead_2 (0 : Int32) σ x τ) : R_X9_isRead  σ x τ := by
  refine x_run [some (.ref 0), none] (by decide +kernel) rfl (Nat.le_of_ble_eq_true rfl) ?_
  refine x_iconst (pc := 0) (0 : Int32) dX9_isRead_0 (by decide +kernel) ?_
  refine x_istore_n (pc := 1) 1 dX9_isRead_1 rfl (by decide) rfl ?_
  exact h
set_option maxRecDepth 20000 in
theorem t_X9_isRead_2 {l1 : Int32} {σ : kS} {x : Int32} {τ : kS}  (h : ((38 : Int32) ≤ l1 → ∃ (x3 : Int32) (s2 : kS), R_X9_isSign (109 : Int32) (k_si σ 0 5 (0 : Int32)) x3 s2 ∧ ((¬ x3 = 0 → E_X9_isRead_39 (1 : Int32) s2 x τ) ∧ (x3 = 0 → x = (0 : Int32) ∧ τ = s2))) ∧ (¬ (38 : Int32) ≤ l1 → vp_in l1 38 ∧ (E_X9_isRead_2 (l1 + (1 : Int32)) (k_si σ 6 l1.toNatClampNeg (0 : Int32)) x τ))) : E_X9_isRead_2 l1 σ x τ := by
  unfold E_X9_isRead_2
  refine x_iload_n (pc := 2) 1 dX9_isRead_2 rfl rfl ?_
  refine x_bipush (pc := 3) (38 : Int32) dX9_isRead_3 (by decide +kernel) ?_
  refine x_icmp_ge (pc := 5) 21 dX9_isRead_5 (by decide) (fun c1 => ?_) (fun c1 => ?_)
  · replace h := h.1 c1
    refine x_aload_n (pc := 21) 0 dX9_isRead_21 rfl rfl ?_
    refine x_iconst (pc := 22) (0 : Int32) dX9_isRead_22 (by decide +kernel) ?_
    refine x_putI (pc := 23) dX9_isRead_23 pX9_62 rfl rfl ?_
    refine x_aload_n (pc := 26) 0 dX9_isRead_26 rfl rfl ?_
    refine x_bipush (pc := 27) (109 : Int32) dX9_isRead_27 (by decide +kernel) ?_
    obtain ⟨x3, s2, hr, h⟩ := h
    refine x_callV (pc := 29) [(.int (109 : Int32))] [] dX9_isRead_29 ⟨⟨hX9_isSign.1, hX9_isSign.2.1, hX9_isSign.2.2, by decide⟩, mX9_79, vX9_isSign.1, vX9_isSign.2⟩ (ci := 9) rfl rfl rfl rfl (Nat.le_of_ble_eq_true rfl) hr ?_
    refine x_if_ne (pc := 32) 37 dX9_isRead_32 (by decide) (fun c4 => ?_) (fun c4 => ?_)
    · replace h := h.1 c4
      refine x_iconst (pc := 37) (1 : Int32) dX9_isRead_37 (by decide +kernel) ?_
      refine x_istore_n (pc := 38) 1 dX9_isRead_38 rfl (by decide) rfl ?_
      exact h
    · replace h := h.2 c4
      refine x_iconst (pc := 35) (0 : Int32) dX9_isRead_35 (by decide +kernel) ?_
      exact x_zreturn2 (pc := 36) dX9_isRead_36 rfl rfl h.1 h.2
  · replace h := h.2 c1
    refine x_aload_n (pc := 8) 0 dX9_isRead_8 rfl rfl ?_
    refine x_getR (pc := 9) dX9_isRead_9 fX9_26 rfl rfl ?_
    refine x_iload_n (pc := 12) 1 dX9_isRead_12 rfl rfl ?_
    refine x_iconst (pc := 13) (0 : Int32) dX9_isRead_13 (by decide +kernel) ?_
    obtain ⟨g5, h⟩ := h
    refine x_iastore (pc := 14) (n := 38) dX9_isRead_14 rfl g5 ?_
    refine x_iinc (pc := 15) (1 : Int32) dX9_isRead_15 (by decide) rfl rfl (by decide +kernel) ?_
    refine x_goto (pc := 18) 2 dX9_isRead_18 (by decide) ?_
    exact h
set_option maxRecDepth 20000 in
theorem t_X9_isRead_39 {l1 : Int32} {σ : kS} {x : Int32} {τ : kS}  (h : (l1 = 0 → ∃ (x3 : Int32) (s2 : kS), R_X9_isSign (59 : Int32) σ x3 s2 ∧ ((¬ x3 = 0 → E_X9_isRead_93 (1 : Int32) s2 x τ) ∧ (x3 = 0 → x = (0 : Int32) ∧ τ = s2))) ∧ (¬ l1 = 0 → ∃ (x6 : Int32) (s5 : kS), R_X9_isShape  σ x6 s5 ∧ ((¬ x6 = 0 → ((4 : Int32) ≤ (s5.1 6 1) → E_X9_isRead_39 (0 : Int32) s5 x τ) ∧ (¬ (4 : Int32) ≤ (s5.1 6 1) → ∃ (x10 : Int32) (s9 : kS), R_X9_isSign (44 : Int32) s5 x10 s9 ∧ ((x10 = 0 → E_X9_isRead_39 (0 : Int32) s9 x τ) ∧ (¬ x10 = 0 → E_X9_isRead_39 (1 : Int32) s9 x τ)))) ∧ (x6 = 0 → x = (0 : Int32) ∧ τ = s5)))) : E_X9_isRead_39 l1 σ x τ := by
  unfold E_X9_isRead_39
  refine x_iload_n (pc := 39) 1 dX9_isRead_39 rfl rfl ?_
  refine x_if_eq (pc := 40) 80 dX9_isRead_40 (by decide) (fun c1 => ?_) (fun c1 => ?_)
  · replace h := h.1 c1
    refine x_aload_n (pc := 80) 0 dX9_isRead_80 rfl rfl ?_
    refine x_bipush (pc := 81) (59 : Int32) dX9_isRead_81 (by decide +kernel) ?_
    obtain ⟨x3, s2, hr, h⟩ := h
    refine x_callV (pc := 83) [(.int (59 : Int32))] [] dX9_isRead_83 ⟨⟨hX9_isSign.1, hX9_isSign.2.1, hX9_isSign.2.2, by decide⟩, mX9_79, vX9_isSign.1, vX9_isSign.2⟩ (ci := 9) rfl rfl rfl rfl (Nat.le_of_ble_eq_true rfl) hr ?_
    refine x_if_ne (pc := 86) 91 dX9_isRead_86 (by decide) (fun c4 => ?_) (fun c4 => ?_)
    · replace h := h.1 c4
      refine x_iconst (pc := 91) (1 : Int32) dX9_isRead_91 (by decide +kernel) ?_
      refine x_istore_n (pc := 92) 1 dX9_isRead_92 rfl (by decide) rfl ?_
      exact h
    · replace h := h.2 c4
      refine x_iconst (pc := 89) (0 : Int32) dX9_isRead_89 (by decide +kernel) ?_
      exact x_zreturn2 (pc := 90) dX9_isRead_90 rfl rfl h.1 h.2
  · replace h := h.2 c1
    refine x_aload_n (pc := 43) 0 dX9_isRead_43 rfl rfl ?_
    obtain ⟨x6, s5, hr, h⟩ := h
    refine x_callV (pc := 44) [] [] dX9_isRead_44 ⟨⟨hX9_isShape.1, hX9_isShape.2.1, hX9_isShape.2.2, by decide⟩, mX9_86, vX9_isShape.1, vX9_isShape.2⟩ (ci := 9) rfl rfl rfl rfl (Nat.le_of_ble_eq_true rfl) hr ?_
    refine x_if_ne (pc := 47) 52 dX9_isRead_47 (by decide) (fun c7 => ?_) (fun c7 => ?_)
    · replace h := h.1 c7
      refine x_aload_n (pc := 52) 0 dX9_isRead_52 rfl rfl ?_
      refine x_getR (pc := 53) dX9_isRead_53 fX9_26 rfl rfl ?_
      refine x_iconst (pc := 56) (1 : Int32) dX9_isRead_56 (by decide +kernel) ?_
      refine x_ialoadK (pc := 57) (n := 38) 1 dX9_isRead_57 rfl (by decide) (by decide +kernel) ?_
      refine x_iconst (pc := 58) (4 : Int32) dX9_isRead_58 (by decide +kernel) ?_
      refine x_icmp_ge (pc := 59) 75 dX9_isRead_59 (by decide) (fun c8 => ?_) (fun c8 => ?_)
      · replace h := h.1 c8
        refine x_iconst (pc := 75) (0 : Int32) dX9_isRead_75 (by decide +kernel) ?_
        refine x_istore_n (pc := 76) 1 dX9_isRead_76 rfl (by decide) rfl ?_
        refine x_goto (pc := 77) 39 dX9_isRead_77 (by decide) ?_
        exact h
      · replace h := h.2 c8
        refine x_aload_n (pc := 62) 0 dX9_isRead_62 rfl rfl ?_
        refine x_bipush (pc := 63) (44 : Int32) dX9_isRead_63 (by decide +kernel) ?_
        obtain ⟨x10, s9, hr, h⟩ := h
        refine x_callV (pc := 65) [(.int (44 : Int32))] [] dX9_isRead_65 ⟨⟨hX9_isSign.1, hX9_isSign.2.1, hX9_isSign.2.2, by decide⟩, mX9_79, vX9_isSign.1, vX9_isSign.2⟩ (ci := 9) rfl rfl rfl rfl (Nat.le_of_ble_eq_true rfl) hr ?_
        refine x_if_eq (pc := 68) 75 dX9_isRead_68 (by decide) (fun c11 => ?_) (fun c11 => ?_)
        · replace h := h.1 c11
          refine x_iconst (pc := 75) (0 : Int32) dX9_isRead_75 (by decide +kernel) ?_
          refine x_istore_n (pc := 76) 1 dX9_isRead_76 rfl (by decide) rfl ?_
          refine x_goto (pc := 77) 39 dX9_isRead_77 (by decide) ?_
          exact h
        · replace h := h.2 c11
          refine x_iconst (pc := 71) (1 : Int32) dX9_isRead_71 (by decide +kernel) ?_
          refine x_goto (pc := 72) 76 dX9_isRead_72 (by decide) ?_
          refine x_istore_n (pc := 76) 1 dX9_isRead_76 rfl (by decide) rfl ?_
          refine x_goto (pc := 77) 39 dX9_isRead_77 (by decide) ?_
          exact h
    · replace h := h.2 c7
      refine x_iconst (pc := 50) (0 : Int32) dX9_isRead_50 (by decide +kernel) ?_
      exact x_zreturn2 (pc := 51) dX9_isRead_51 rfl rfl h.1 h.2
set_option maxRecDepth 20000 in
theorem t_X9_isRead_93 {l1 : Int32} {σ : kS} {x : Int32} {τ : kS}  (h : (l1 = 0 → ∃ (x3 : Int32) (s2 : kS), R_X9_isSign (59 : Int32) σ x3 s2 ∧ ((¬ x3 = 0 → E_X9_isRead_147 (1 : Int32) s2 x τ) ∧ (x3 = 0 → x = (0 : Int32) ∧ τ = s2))) ∧ (¬ l1 = 0 → ∃ (x6 : Int32) (s5 : kS), R_X9_isFieldItem  σ x6 s5 ∧ ((¬ x6 = 0 → ((5 : Int32) ≤ (s5.1 6 2) → E_X9_isRead_93 (0 : Int32) s5 x τ) ∧ (¬ (5 : Int32) ≤ (s5.1 6 2) → ∃ (x10 : Int32) (s9 : kS), R_X9_isSign (44 : Int32) s5 x10 s9 ∧ ((x10 = 0 → E_X9_isRead_93 (0 : Int32) s9 x τ) ∧ (¬ x10 = 0 → E_X9_isRead_93 (1 : Int32) s9 x τ)))) ∧ (x6 = 0 → x = (0 : Int32) ∧ τ = s5)))) : E_X9_isRead_93 l1 σ x τ := by
  unfold E_X9_isRead_93
  refine x_iload_n (pc := 93) 1 dX9_isRead_93 rfl rfl ?_
  refine x_if_eq (pc := 94) 134 dX9_isRead_94 (by decide) (fun c1 => ?_) (fun c1 => ?_)
  · replace h := h.1 c1
    refine x_aload_n (pc := 134) 0 dX9_isRead_134 rfl rfl ?_
    refine x_bipush (pc := 135) (59 : Int32) dX9_isRead_135 (by decide +kernel) ?_
    obtain ⟨x3, s2, hr, h⟩ := h
    refine x_callV (pc := 137) [(.int (59 : Int32))] [] dX9_isRead_137 ⟨⟨hX9_isSign.1, hX9_isSign.2.1, hX9_isSign.2.2, by decide⟩, mX9_79, vX9_isSign.1, vX9_isSign.2⟩ (ci := 9) rfl rfl rfl rfl (Nat.le_of_ble_eq_true rfl) hr ?_
    refine x_if_ne (pc := 140) 145 dX9_isRead_140 (by decide) (fun c4 => ?_) (fun c4 => ?_)
    · replace h := h.1 c4
      refine x_iconst (pc := 145) (1 : Int32) dX9_isRead_145 (by decide +kernel) ?_
      refine x_istore_n (pc := 146) 1 dX9_isRead_146 rfl (by decide) rfl ?_
      exact h
    · replace h := h.2 c4
      refine x_iconst (pc := 143) (0 : Int32) dX9_isRead_143 (by decide +kernel) ?_
      exact x_zreturn2 (pc := 144) dX9_isRead_144 rfl rfl h.1 h.2
  · replace h := h.2 c1
    refine x_aload_n (pc := 97) 0 dX9_isRead_97 rfl rfl ?_
    obtain ⟨x6, s5, hr, h⟩ := h
    refine x_callV (pc := 98) [] [] dX9_isRead_98 ⟨⟨hX9_isFieldItem.1, hX9_isFieldItem.2.1, hX9_isFieldItem.2.2, by decide⟩, mX9_90, vX9_isFieldItem.1, vX9_isFieldItem.2⟩ (ci := 9) rfl rfl rfl rfl (Nat.le_of_ble_eq_true rfl) hr ?_
    refine x_if_ne (pc := 101) 106 dX9_isRead_101 (by decide) (fun c7 => ?_) (fun c7 => ?_)
    · replace h := h.1 c7
      refine x_aload_n (pc := 106) 0 dX9_isRead_106 rfl rfl ?_
      refine x_getR (pc := 107) dX9_isRead_107 fX9_26 rfl rfl ?_
      refine x_iconst (pc := 110) (2 : Int32) dX9_isRead_110 (by decide +kernel) ?_
      refine x_ialoadK (pc := 111) (n := 38) 2 dX9_isRead_111 rfl (by decide) (by decide +kernel) ?_
      refine x_iconst (pc := 112) (5 : Int32) dX9_isRead_112 (by decide +kernel) ?_
      refine x_icmp_ge (pc := 113) 129 dX9_isRead_113 (by decide) (fun c8 => ?_) (fun c8 => ?_)
      · replace h := h.1 c8
        refine x_iconst (pc := 129) (0 : Int32) dX9_isRead_129 (by decide +kernel) ?_
        refine x_istore_n (pc := 130) 1 dX9_isRead_130 rfl (by decide) rfl ?_
        refine x_goto (pc := 131) 93 dX9_isRead_131 (by decide) ?_
        exact h
      · replace h := h.2 c8
        refine x_aload_n (pc := 116) 0 dX9_isRead_116 rfl rfl ?_
        refine x_bipush (pc := 117) (44 : Int32) dX9_isRead_117 (by decide +kernel) ?_
        obtain ⟨x10, s9, hr, h⟩ := h
        refine x_callV (pc := 119) [(.int (44 : Int32))] [] dX9_isRead_119 ⟨⟨hX9_isSign.1, hX9_isSign.2.1, hX9_isSign.2.2, by decide⟩, mX9_79, vX9_isSign.1, vX9_isSign.2⟩ (ci := 9) rfl rfl rfl rfl (Nat.le_of_ble_eq_true rfl) hr ?_
        refine x_if_eq (pc := 122) 129 dX9_isRead_122 (by decide) (fun c11 => ?_) (fun c11 => ?_)
        · replace h := h.1 c11
          refine x_iconst (pc := 129) (0 : Int32) dX9_isRead_129 (by decide +kernel) ?_
          refine x_istore_n (pc := 130) 1 dX9_isRead_130 rfl (by decide) rfl ?_
          refine x_goto (pc := 131) 93 dX9_isRead_131 (by decide) ?_
          exact h
        · replace h := h.2 c11
          refine x_iconst (pc := 125) (1 : Int32) dX9_isRead_125 (by decide +kernel) ?_
          refine x_goto (pc := 126) 130 dX9_isRead_126 (by decide) ?_
          refine x_istore_n (pc := 130) 1 dX9_isRead_130 rfl (by decide) rfl ?_
          refine x_goto (pc := 131) 93 dX9_isRead_131 (by decide) ?_
          exact h
    · replace h := h.2 c7
      refine x_iconst (pc := 104) (0 : Int32) dX9_isRead_104 (by decide +kernel) ?_
      exact x_zreturn2 (pc := 105) dX9_isRead_105 rfl rfl h.1 h.2
set_option maxRecDepth 20000 in
theorem t_X9_isRead_147 {l1 : Int32} {σ : kS} {x : Int32} {τ : kS}  (h : (l1 = 0 → (¬ (σ.1 0 5) = (σ.1 0 3) → x = (0 : Int32) ∧ τ = σ) ∧ ((σ.1 0 5) = (σ.1 0 3) → x = (1 : Int32) ∧ τ = σ)) ∧ (¬ l1 = 0 → ∃ (x4 : Int32) (s3 : kS), R_X9_isSinger  σ x4 s3 ∧ ((¬ x4 = 0 → ((5 : Int32) ≤ (s3.1 6 3) → E_X9_isRead_147 (0 : Int32) s3 x τ) ∧ (¬ (5 : Int32) ≤ (s3.1 6 3) → ∃ (x8 : Int32) (s7 : kS), R_X9_isSign (44 : Int32) s3 x8 s7 ∧ ((x8 = 0 → E_X9_isRead_147 (0 : Int32) s7 x τ) ∧ (¬ x8 = 0 → E_X9_isRead_147 (1 : Int32) s7 x τ)))) ∧ (x4 = 0 → x = (0 : Int32) ∧ τ = s3)))) : E_X9_isRead_147 l1 σ x τ := by
  unfold E_X9_isRead_147
  refine x_iload_n (pc := 147) 1 dX9_isRead_147 rfl rfl ?_
  refine x_if_eq (pc := 148) 188 dX9_isRead_148 (by decide) (fun c1 => ?_) (fun c1 => ?_)
  · replace h := h.1 c1
    refine x_aload_n (pc := 188) 0 dX9_isRead_188 rfl rfl ?_
    refine x_getI (pc := 189) dX9_isRead_189 fX9_62 rfl rfl ?_
    refine x_aload_n (pc := 192) 0 dX9_isRead_192 rfl rfl ?_
    refine x_getI (pc := 193) dX9_isRead_193 fX9_58 rfl rfl ?_
    refine x_icmp_ne (pc := 196) 203 dX9_isRead_196 (by decide) (fun c2 => ?_) (fun c2 => ?_)
    · replace h := h.1 c2
      refine x_iconst (pc := 203) (0 : Int32) dX9_isRead_203 (by decide +kernel) ?_
      exact x_zreturn2 (pc := 204) dX9_isRead_204 rfl rfl h.1 h.2
    · replace h := h.2 c2
      refine x_iconst (pc := 199) (1 : Int32) dX9_isRead_199 (by decide +kernel) ?_
      refine x_goto (pc := 200) 204 dX9_isRead_200 (by decide) ?_
      exact x_zreturn2 (pc := 204) dX9_isRead_204 rfl rfl h.1 h.2
  · replace h := h.2 c1
    refine x_aload_n (pc := 151) 0 dX9_isRead_151 rfl rfl ?_
    obtain ⟨x4, s3, hr, h⟩ := h
    refine x_callV (pc := 152) [] [] dX9_isRead_152 ⟨⟨hX9_isSinger.1, hX9_isSinger.2.1, hX9_isSinger.2.2, by decide⟩, mX9_93, vX9_isSinger.1, vX9_isSinger.2⟩ (ci := 9) rfl rfl rfl rfl (Nat.le_of_ble_eq_true rfl) hr ?_
    refine x_if_ne (pc := 155) 160 dX9_isRead_155 (by decide) (fun c5 => ?_) (fun c5 => ?_)
    · replace h := h.1 c5
      refine x_aload_n (pc := 160) 0 dX9_isRead_160 rfl rfl ?_
      refine x_getR (pc := 161) dX9_isRead_161 fX9_26 rfl rfl ?_
      refine x_iconst (pc := 164) (3 : Int32) dX9_isRead_164 (by decide +kernel) ?_
      refine x_ialoadK (pc := 165) (n := 38) 3 dX9_isRead_165 rfl (by decide) (by decide +kernel) ?_
      refine x_iconst (pc := 166) (5 : Int32) dX9_isRead_166 (by decide +kernel) ?_
      refine x_icmp_ge (pc := 167) 183 dX9_isRead_167 (by decide) (fun c6 => ?_) (fun c6 => ?_)
      · replace h := h.1 c6
        refine x_iconst (pc := 183) (0 : Int32) dX9_isRead_183 (by decide +kernel) ?_
        refine x_istore_n (pc := 184) 1 dX9_isRead_184 rfl (by decide) rfl ?_
        refine x_goto (pc := 185) 147 dX9_isRead_185 (by decide) ?_
        exact h
      · replace h := h.2 c6
        refine x_aload_n (pc := 170) 0 dX9_isRead_170 rfl rfl ?_
        refine x_bipush (pc := 171) (44 : Int32) dX9_isRead_171 (by decide +kernel) ?_
        obtain ⟨x8, s7, hr, h⟩ := h
        refine x_callV (pc := 173) [(.int (44 : Int32))] [] dX9_isRead_173 ⟨⟨hX9_isSign.1, hX9_isSign.2.1, hX9_isSign.2.2, by decide⟩, mX9_79, vX9_isSign.1, vX9_isSign.2⟩ (ci := 9) rfl rfl rfl rfl (Nat.le_of_ble_eq_true rfl) hr ?_
        refine x_if_eq (pc := 176) 183 dX9_isRead_176 (by decide) (fun c9 => ?_) (fun c9 => ?_)
        · replace h := h.1 c9
          refine x_iconst (pc := 183) (0 : Int32) dX9_isRead_183 (by decide +kernel) ?_
          refine x_istore_n (pc := 184) 1 dX9_isRead_184 rfl (by decide) rfl ?_
          refine x_goto (pc := 185) 147 dX9_isRead_185 (by decide) ?_
          exact h
        · replace h := h.2 c9
          refine x_iconst (pc := 179) (1 : Int32) dX9_isRead_179 (by decide +kernel) ?_
          refine x_goto (pc := 180) 184 dX9_isRead_180 (by decide) ?_
          refine x_istore_n (pc := 184) 1 dX9_isRead_184 rfl (by decide) rfl ?_
          refine x_goto (pc := 185) 147 dX9_isRead_185 (by decide) ?_
          exact h
    · replace h := h.2 c5
      refine x_iconst (pc := 158) (0 : Int32) dX9_isRead_158 (by decide +kernel) ?_
      exact x_zreturn2 (pc := 159) dX9_isRead_159 rfl rfl h.1 h.2
theorem dX9_valley_0 : decode cX9_valley 0 = .ok (.aload_n 0, 1) := by decide +kernel
theorem dX9_valley_1 : decode cX9_valley 1 = .ok (.invokevirtual 96, 3) := by decide +kernel
theorem dX9_valley_4 : decode cX9_valley 4 = .ok (.istore_n 1, 1) := by decide +kernel
theorem dX9_valley_5 : decode cX9_valley 5 = .ok (.aload_n 0, 1) := by decide +kernel
theorem dX9_valley_6 : decode cX9_valley 6 = .ok (.iconst 0, 1) := by decide +kernel
theorem dX9_valley_7 : decode cX9_valley 7 = .ok (.putfield 58, 3) := by decide +kernel
theorem dX9_valley_10 : decode cX9_valley 10 = .ok (.iload_n 1, 1) := by decide +kernel
theorem dX9_valley_11 : decode cX9_valley 11 = .ok (.ifCond .ne 11, 3) := by decide +kernel
theorem dX9_valley_14 : decode cX9_valley 14 = .ok (.bipush (-100), 2) := by decide +kernel
theorem dX9_valley_16 : decode cX9_valley 16 = .ok (.aload_n 0, 1) := by decide +kernel
theorem dX9_valley_17 : decode cX9_valley 17 = .ok (.getfield 62, 3) := by decide +kernel
theorem dX9_valley_20 : decode cX9_valley 20 = .ok (.isub, 1) := by decide +kernel
theorem dX9_valley_21 : decode cX9_valley 21 = .ok (.ireturn, 1) := by decide +kernel
theorem dX9_valley_22 : decode cX9_valley 22 = .ok (.aload_n 0, 1) := by decide +kernel
theorem dX9_valley_23 : decode cX9_valley 23 = .ok (.getfield 26, 3) := by decide +kernel
theorem dX9_valley_26 : decode cX9_valley 26 = .ok (.iconst 0, 1) := by decide +kernel
theorem dX9_valley_27 : decode cX9_valley 27 = .ok (.aload_n 0, 1) := by decide +kernel
theorem dX9_valley_28 : decode cX9_valley 28 = .ok (.getfield 23, 3) := by decide +kernel
theorem dX9_valley_31 : decode cX9_valley 31 = .ok (.iconst 0, 1) := by decide +kernel
theorem dX9_valley_32 : decode cX9_valley 32 = .ok (.bipush 38, 2) := by decide +kernel
theorem dX9_valley_34 : decode cX9_valley 34 = .ok (.invokestatic 99, 3) := by decide +kernel
theorem dX9_valley_37 : decode cX9_valley 37 = .ok (.aload_n 0, 1) := by decide +kernel
theorem dX9_valley_38 : decode cX9_valley 38 = .ok (.iconst 0, 1) := by decide +kernel
theorem dX9_valley_39 : decode cX9_valley 39 = .ok (.putfield 103, 3) := by decide +kernel
theorem dX9_valley_42 : decode cX9_valley 42 = .ok (.aload_n 0, 1) := by decide +kernel
theorem dX9_valley_43 : decode cX9_valley 43 = .ok (.getfield 23, 3) := by decide +kernel
theorem dX9_valley_46 : decode cX9_valley 46 = .ok (.iconst 3, 1) := by decide +kernel
theorem dX9_valley_47 : decode cX9_valley 47 = .ok (.iaload, 1) := by decide +kernel
theorem dX9_valley_48 : decode cX9_valley 48 = .ok (.ireturn, 1) := by decide +kernel
def R_X9_valley  (σ : kS) (x : Int32) (τ : kS) : Prop := Run SM jX9_valley [(.ref 0)] σ (some (.int x)) τ
set_option maxRecDepth 20000 in
theorem t_X9_valley  {σ : kS} {x : Int32} {τ : kS}  (h : ∃ (x2 : Int32) (s1 : kS), R_X9_isRead  σ x2 s1 ∧ ((¬ x2 = 0 → ∃ s4 : kS, R_X9_bring 6 38 (0 : Int32) 5 38 (0 : Int32) (38 : Int32) (k_si s1 0 3 (0 : Int32)) s4 ∧ (x = (s4.1 5 3) ∧ τ = (k_si s4 0 12 (0 : Int32)))) ∧ (x2 = 0 → x = ((-100 : Int32) - (s1.1 0 5)) ∧ τ = (k_si s1 0 3 (0 : Int32))))) : R_X9_valley  σ x τ := by
  refine x_run [some (.ref 0), none] (by decide +kernel) rfl (Nat.le_of_ble_eq_true rfl) ?_
  refine x_aload_n (pc := 0) 0 dX9_valley_0 rfl rfl ?_
  obtain ⟨x2, s1, hr, h⟩ := h
  refine x_callV (pc := 1) [] [] dX9_valley_1 ⟨⟨hX9_isRead.1, hX9_isRead.2.1, hX9_isRead.2.2, by decide⟩, mX9_96, vX9_isRead.1, vX9_isRead.2⟩ (ci := 9) rfl rfl rfl rfl (Nat.le_of_ble_eq_true rfl) hr ?_
  refine x_istore_n (pc := 4) 1 dX9_valley_4 rfl (by decide) rfl ?_
  refine x_aload_n (pc := 5) 0 dX9_valley_5 rfl rfl ?_
  refine x_iconst (pc := 6) (0 : Int32) dX9_valley_6 (by decide +kernel) ?_
  refine x_putI (pc := 7) dX9_valley_7 pX9_58 rfl rfl ?_
  refine x_iload_n (pc := 10) 1 dX9_valley_10 rfl rfl ?_
  refine x_if_ne (pc := 11) 22 dX9_valley_11 (by decide) (fun c3 => ?_) (fun c3 => ?_)
  · replace h := h.1 c3
    refine x_aload_n (pc := 22) 0 dX9_valley_22 rfl rfl ?_
    refine x_getR (pc := 23) dX9_valley_23 fX9_26 rfl rfl ?_
    refine x_iconst (pc := 26) (0 : Int32) dX9_valley_26 (by decide +kernel) ?_
    refine x_aload_n (pc := 27) 0 dX9_valley_27 rfl rfl ?_
    refine x_getR (pc := 28) dX9_valley_28 fX9_23 rfl rfl ?_
    refine x_iconst (pc := 31) (0 : Int32) dX9_valley_31 (by decide +kernel) ?_
    refine x_bipush (pc := 32) (38 : Int32) dX9_valley_32 (by decide +kernel) ?_
    obtain ⟨s4, hr, h⟩ := h
    refine x_callS (pc := 34) [(.ref 6), (.int (0 : Int32)), (.ref 5), (.int (0 : Int32)), (.int (38 : Int32))] [] dX9_valley_34 ⟨⟨hX9_bring.1, hX9_bring.2.1, hX9_bring.2.2, by decide⟩, mX9_99, sX9_bring⟩ rfl rfl (Nat.le_of_ble_eq_true rfl) hr ?_
    refine x_aload_n (pc := 37) 0 dX9_valley_37 rfl rfl ?_
    refine x_iconst (pc := 38) (0 : Int32) dX9_valley_38 (by decide +kernel) ?_
    refine x_putI (pc := 39) dX9_valley_39 pX9_103 rfl rfl ?_
    refine x_aload_n (pc := 42) 0 dX9_valley_42 rfl rfl ?_
    refine x_getR (pc := 43) dX9_valley_43 fX9_23 rfl rfl ?_
    refine x_iconst (pc := 46) (3 : Int32) dX9_valley_46 (by decide +kernel) ?_
    refine x_ialoadK (pc := 47) (n := 38) 3 dX9_valley_47 rfl (by decide) (by decide +kernel) ?_
    exact x_ireturn2 (pc := 48) dX9_valley_48 rfl h.1 h.2
  · replace h := h.2 c3
    refine x_bipush (pc := 14) (-100 : Int32) dX9_valley_14 (by decide +kernel) ?_
    refine x_aload_n (pc := 16) 0 dX9_valley_16 rfl rfl ?_
    refine x_getI (pc := 17) dX9_valley_17 fX9_62 rfl rfl ?_
    refine x_isub (pc := 20) dX9_valley_20 ?_
    exact x_ireturn2 (pc := 21) dX9_valley_21 rfl h.1 h.2
theorem dX9_shape_0 : decode cX9_shape 0 = .ok (.iload_n 1, 1) := by decide +kernel
theorem dX9_shape_1 : decode cX9_shape 1 = .ok (.iconst 0, 1) := by decide +kernel
theorem dX9_shape_2 : decode cX9_shape 2 = .ok (.aload_n 0, 1) := by decide +kernel
theorem dX9_shape_3 : decode cX9_shape 3 = .ok (.getfield 23, 3) := by decide +kernel
theorem dX9_shape_6 : decode cX9_shape 6 = .ok (.iconst 1, 1) := by decide +kernel
theorem dX9_shape_7 : decode cX9_shape 7 = .ok (.iaload, 1) := by decide +kernel
theorem dX9_shape_8 : decode cX9_shape 8 = .ok (.iconst 1, 1) := by decide +kernel
theorem dX9_shape_9 : decode cX9_shape 9 = .ok (.isub, 1) := by decide +kernel
theorem dX9_shape_10 : decode cX9_shape 10 = .ok (.invokestatic 54, 3) := by decide +kernel
theorem dX9_shape_13 : decode cX9_shape 13 = .ok (.ifCond .eq 14, 3) := by decide +kernel
theorem dX9_shape_16 : decode cX9_shape 16 = .ok (.aload_n 0, 1) := by decide +kernel
theorem dX9_shape_17 : decode cX9_shape 17 = .ok (.getfield 23, 3) := by decide +kernel
theorem dX9_shape_20 : decode cX9_shape 20 = .ok (.iconst 4, 1) := by decide +kernel
theorem dX9_shape_21 : decode cX9_shape 21 = .ok (.iload_n 1, 1) := by decide +kernel
theorem dX9_shape_22 : decode cX9_shape 22 = .ok (.iadd, 1) := by decide +kernel
theorem dX9_shape_23 : decode cX9_shape 23 = .ok (.iaload, 1) := by decide +kernel
theorem dX9_shape_24 : decode cX9_shape 24 = .ok (.goto 4, 3) := by decide +kernel
theorem dX9_shape_27 : decode cX9_shape 27 = .ok (.iconst (-1), 1) := by decide +kernel
theorem dX9_shape_28 : decode cX9_shape 28 = .ok (.ireturn, 1) := by decide +kernel
def R_X9_shape (a1 : Int32) (σ : kS) (x : Int32) (τ : kS) : Prop := Run SM jX9_shape [(.ref 0), (.int a1)] σ (some (.int x)) τ
set_option maxRecDepth 20000 in
theorem t_X9_shape {a1 : Int32} {σ : kS} {x : Int32} {τ : kS}  (h : (¬ (iv a1 (0 : Int32) ((σ.1 5 1) - (1 : Int32))) → x = (-1 : Int32) ∧ τ = σ) ∧ ((iv a1 (0 : Int32) ((σ.1 5 1) - (1 : Int32))) → vp_in ((4 : Int32) + a1) 38 ∧ (x = (σ.1 5 ((4 : Int32) + a1).toNatClampNeg) ∧ τ = σ))) : R_X9_shape a1 σ x τ := by
  refine x_run [some (.ref 0), some (.int a1)] (by decide +kernel) rfl (Nat.le_of_ble_eq_true rfl) ?_
  refine x_iload_n (pc := 0) 1 dX9_shape_0 rfl rfl ?_
  refine x_iconst (pc := 1) (0 : Int32) dX9_shape_1 (by decide +kernel) ?_
  refine x_aload_n (pc := 2) 0 dX9_shape_2 rfl rfl ?_
  refine x_getR (pc := 3) dX9_shape_3 fX9_23 rfl rfl ?_
  refine x_iconst (pc := 6) (1 : Int32) dX9_shape_6 (by decide +kernel) ?_
  refine x_ialoadK (pc := 7) (n := 38) 1 dX9_shape_7 rfl (by decide) (by decide +kernel) ?_
  refine x_iconst (pc := 8) (1 : Int32) dX9_shape_8 (by decide +kernel) ?_
  refine x_isub (pc := 9) dX9_shape_9 ?_
  refine x_callS (pc := 10) [(.int a1), (.int (0 : Int32)), (.int ((σ.1 5 1) - (1 : Int32)))] [] dX9_shape_10 ⟨⟨hX9_in.1, hX9_in.2.1, hX9_in.2.2, by decide⟩, mX9_54, sX9_in⟩ rfl rfl (Nat.le_of_ble_eq_true rfl) (i_X9_in) ?_
  refine x_bif_eq (pc := 13) 27 dX9_shape_13 (by decide) (fun c1 => ?_) (fun c1 => ?_)
  · replace h := h.1 c1
    refine x_iconst (pc := 27) (-1 : Int32) dX9_shape_27 (by decide +kernel) ?_
    exact x_ireturn2 (pc := 28) dX9_shape_28 rfl h.1 h.2
  · replace h := h.2 c1
    refine x_aload_n (pc := 16) 0 dX9_shape_16 rfl rfl ?_
    refine x_getR (pc := 17) dX9_shape_17 fX9_23 rfl rfl ?_
    refine x_iconst (pc := 20) (4 : Int32) dX9_shape_20 (by decide +kernel) ?_
    refine x_iload_n (pc := 21) 1 dX9_shape_21 rfl rfl ?_
    refine x_iadd (pc := 22) dX9_shape_22 ?_
    obtain ⟨g2, h⟩ := h
    refine x_iaload (pc := 23) (n := 38) dX9_shape_23 rfl g2 ?_
    refine x_goto (pc := 24) 28 dX9_shape_24 (by decide) ?_
    exact x_ireturn2 (pc := 28) dX9_shape_28 rfl h.1 h.2
theorem dX9_chordBy_0 : decode cX9_chordBy 0 = .ok (.iconst (-1), 1) := by decide +kernel
theorem dX9_chordBy_1 : decode cX9_chordBy 1 = .ok (.istore_n 2, 1) := by decide +kernel
theorem dX9_chordBy_2 : decode cX9_chordBy 2 = .ok (.bipush 13, 2) := by decide +kernel
theorem dX9_chordBy_4 : decode cX9_chordBy 4 = .ok (.istore_n 3, 1) := by decide +kernel
theorem dX9_chordBy_5 : decode cX9_chordBy 5 = .ok (.iconst 0, 1) := by decide +kernel
theorem dX9_chordBy_6 : decode cX9_chordBy 6 = .ok (.istore 4, 2) := by decide +kernel
theorem dX9_chordBy_8 : decode cX9_chordBy 8 = .ok (.iload 4, 2) := by decide +kernel
theorem dX9_chordBy_10 : decode cX9_chordBy 10 = .ok (.aload_n 0, 1) := by decide +kernel
theorem dX9_chordBy_11 : decode cX9_chordBy 11 = .ok (.iconst 1, 1) := by decide +kernel
theorem dX9_chordBy_12 : decode cX9_chordBy 12 = .ok (.iaload, 1) := by decide +kernel
theorem dX9_chordBy_13 : decode cX9_chordBy 13 = .ok (.if_icmp .ge 75, 3) := by decide +kernel
theorem dX9_chordBy_16 : decode cX9_chordBy 16 = .ok (.iload_n 1, 1) := by decide +kernel
theorem dX9_chordBy_17 : decode cX9_chordBy 17 = .ok (.ifCond .eq 71, 3) := by decide +kernel
theorem dX9_chordBy_20 : decode cX9_chordBy 20 = .ok (.iconst 0, 1) := by decide +kernel
theorem dX9_chordBy_21 : decode cX9_chordBy 21 = .ok (.istore 5, 2) := by decide +kernel
theorem dX9_chordBy_23 : decode cX9_chordBy 23 = .ok (.iload 5, 2) := by decide +kernel
theorem dX9_chordBy_25 : decode cX9_chordBy 25 = .ok (.bipush 12, 2) := by decide +kernel
theorem dX9_chordBy_27 : decode cX9_chordBy 27 = .ok (.if_icmp .ge 55, 3) := by decide +kernel
theorem dX9_chordBy_30 : decode cX9_chordBy 30 = .ok (.aload_n 0, 1) := by decide +kernel
theorem dX9_chordBy_31 : decode cX9_chordBy 31 = .ok (.iconst 4, 1) := by decide +kernel
theorem dX9_chordBy_32 : decode cX9_chordBy 32 = .ok (.iload 4, 2) := by decide +kernel
theorem dX9_chordBy_34 : decode cX9_chordBy 34 = .ok (.iadd, 1) := by decide +kernel
theorem dX9_chordBy_35 : decode cX9_chordBy 35 = .ok (.iaload, 1) := by decide +kernel
theorem dX9_chordBy_36 : decode cX9_chordBy 36 = .ok (.iload 5, 2) := by decide +kernel
theorem dX9_chordBy_38 : decode cX9_chordBy 38 = .ok (.invokestatic 106, 3) := by decide +kernel
theorem dX9_chordBy_41 : decode cX9_chordBy 41 = .ok (.istore 6, 2) := by decide +kernel
theorem dX9_chordBy_43 : decode cX9_chordBy 43 = .ok (.iload_n 1, 1) := by decide +kernel
theorem dX9_chordBy_44 : decode cX9_chordBy 44 = .ok (.iload 6, 2) := by decide +kernel
theorem dX9_chordBy_46 : decode cX9_chordBy 46 = .ok (.iconst (-1), 1) := by decide +kernel
theorem dX9_chordBy_47 : decode cX9_chordBy 47 = .ok (.ixor, 1) := by decide +kernel
theorem dX9_chordBy_48 : decode cX9_chordBy 48 = .ok (.iand, 1) := by decide +kernel
theorem dX9_chordBy_49 : decode cX9_chordBy 49 = .ok (.ifCond .ne 27, 3) := by decide +kernel
theorem dX9_chordBy_52 : decode cX9_chordBy 52 = .ok (.iload 6, 2) := by decide +kernel
theorem dX9_chordBy_54 : decode cX9_chordBy 54 = .ok (.invokestatic 76, 3) := by decide +kernel
theorem dX9_chordBy_57 : decode cX9_chordBy 57 = .ok (.iload_n 3, 1) := by decide +kernel
theorem dX9_chordBy_58 : decode cX9_chordBy 58 = .ok (.if_icmp .ge 18, 3) := by decide +kernel
theorem dX9_chordBy_61 : decode cX9_chordBy 61 = .ok (.iload 6, 2) := by decide +kernel
theorem dX9_chordBy_63 : decode cX9_chordBy 63 = .ok (.invokestatic 76, 3) := by decide +kernel
theorem dX9_chordBy_66 : decode cX9_chordBy 66 = .ok (.istore_n 3, 1) := by decide +kernel
theorem dX9_chordBy_67 : decode cX9_chordBy 67 = .ok (.bipush 12, 2) := by decide +kernel
theorem dX9_chordBy_69 : decode cX9_chordBy 69 = .ok (.iload 4, 2) := by decide +kernel
theorem dX9_chordBy_71 : decode cX9_chordBy 71 = .ok (.imul, 1) := by decide +kernel
theorem dX9_chordBy_72 : decode cX9_chordBy 72 = .ok (.iload 5, 2) := by decide +kernel
theorem dX9_chordBy_74 : decode cX9_chordBy 74 = .ok (.iadd, 1) := by decide +kernel
theorem dX9_chordBy_75 : decode cX9_chordBy 75 = .ok (.istore_n 2, 1) := by decide +kernel
theorem dX9_chordBy_76 : decode cX9_chordBy 76 = .ok (.iinc 5 1, 3) := by decide +kernel
theorem dX9_chordBy_79 : decode cX9_chordBy 79 = .ok (.goto (-56), 3) := by decide +kernel
theorem dX9_chordBy_82 : decode cX9_chordBy 82 = .ok (.iinc 4 1, 3) := by decide +kernel
theorem dX9_chordBy_85 : decode cX9_chordBy 85 = .ok (.goto (-77), 3) := by decide +kernel
theorem dX9_chordBy_88 : decode cX9_chordBy 88 = .ok (.iload_n 2, 1) := by decide +kernel
theorem dX9_chordBy_89 : decode cX9_chordBy 89 = .ok (.ireturn, 1) := by decide +kernel
def R_X9_chordBy (r0 : Nat) (a1 : Int32) (σ : kS) (x : Int32) (τ : kS) : Prop := Run SM jX9_chordBy [(.ref r0), (.int a1)] σ (some (.int x)) τ
def E_X9_chordBy_8 (r0 : Nat) (l1 : Int32) (l2 : Int32) (l3 : Int32) (l4 : Int32) (σ : kS) (x : Int32) (τ : kS) : Prop := Ex SM jX9_chordBy 8 [some (.ref r0), some (.int l1), some (.int l2), some (.int l3), some (.int l4), none, none] [] σ (some (.int x)) τ
def E_X9_chordBy_23 (r0 : Nat) (l1 : Int32) (l2 : Int32) (l3 : Int32) (l4 : Int32) (l5 : Int32) (σ : kS) (x : Int32) (τ : kS) : Prop := Ex SM jX9_chordBy 23 [some (.ref r0), some (.int l1), some (.int l2), some (.int l3), some (.int l4), some (.int l5), none] [] σ (some (.int x)) τ
set_option maxRecDepth 20000 in
theorem t_X9_chordBy {r0 : Nat} {a1 : Int32} {σ : kS} {x : Int32} {τ : kS} (hr0 : k_is SM r0 1 38 = true) (h : E_X9_chordBy_8 r0 a1 (-1 : Int32) (13 : Int32) (0 : Int32) σ x τ) : R_X9_chordBy r0 a1 σ x τ := by
  refine x_run [some (.ref r0), some (.int a1), none, none, none, none, none] (by decide +kernel) rfl (Nat.le_of_ble_eq_true rfl) ?_
  refine x_iconst (pc := 0) (-1 : Int32) dX9_chordBy_0 (by decide +kernel) ?_
  refine x_istore_n (pc := 1) 2 dX9_chordBy_1 rfl (by decide) rfl ?_
  refine x_bipush (pc := 2) (13 : Int32) dX9_chordBy_2 (by decide +kernel) ?_
  refine x_istore_n (pc := 4) 3 dX9_chordBy_4 rfl (by decide) rfl ?_
  refine x_iconst (pc := 5) (0 : Int32) dX9_chordBy_5 (by decide +kernel) ?_
  refine x_istore (pc := 6) dX9_chordBy_6 (by decide) rfl ?_
  exact h
set_option maxRecDepth 20000 in
theorem t_X9_chordBy_8 {r0 : Nat} {l1 : Int32} {l2 : Int32} {l3 : Int32} {l4 : Int32} {σ : kS} {x : Int32} {τ : kS} (hr0 : k_is SM r0 1 38 = true) (h : ((σ.1 r0 1) ≤ l4 → x = l2 ∧ τ = σ) ∧ (¬ (σ.1 r0 1) ≤ l4 → (l1 = 0 → x = l2 ∧ τ = σ) ∧ (¬ l1 = 0 → E_X9_chordBy_23 r0 l1 l2 l3 l4 (0 : Int32) σ x τ))) : E_X9_chordBy_8 r0 l1 l2 l3 l4 σ x τ := by
  unfold E_X9_chordBy_8
  refine x_iload (pc := 8) dX9_chordBy_8 rfl ?_
  refine x_aload_n (pc := 10) 0 dX9_chordBy_10 rfl rfl ?_
  refine x_iconst (pc := 11) (1 : Int32) dX9_chordBy_11 (by decide +kernel) ?_
  refine x_ialoadK (pc := 12) (n := 38) 1 dX9_chordBy_12 hr0 (by decide) (by decide +kernel) ?_
  refine x_icmp_ge (pc := 13) 88 dX9_chordBy_13 (by decide) (fun c1 => ?_) (fun c1 => ?_)
  · replace h := h.1 c1
    refine x_iload_n (pc := 88) 2 dX9_chordBy_88 rfl rfl ?_
    exact x_ireturn2 (pc := 89) dX9_chordBy_89 rfl h.1 h.2
  · replace h := h.2 c1
    refine x_iload_n (pc := 16) 1 dX9_chordBy_16 rfl rfl ?_
    refine x_if_eq (pc := 17) 88 dX9_chordBy_17 (by decide) (fun c2 => ?_) (fun c2 => ?_)
    · replace h := h.1 c2
      refine x_iload_n (pc := 88) 2 dX9_chordBy_88 rfl rfl ?_
      exact x_ireturn2 (pc := 89) dX9_chordBy_89 rfl h.1 h.2
    · replace h := h.2 c2
      refine x_iconst (pc := 20) (0 : Int32) dX9_chordBy_20 (by decide +kernel) ?_
      refine x_istore (pc := 21) dX9_chordBy_21 (by decide) rfl ?_
      exact h
set_option maxRecDepth 20000 in
theorem t_X9_chordBy_23 {r0 : Nat} {l1 : Int32} {l2 : Int32} {l3 : Int32} {l4 : Int32} {l5 : Int32} {σ : kS} {x : Int32} {τ : kS} (hr0 : k_is SM r0 1 38 = true) (h : ((12 : Int32) ≤ l5 → E_X9_chordBy_8 r0 l1 l2 l3 (l4 + (1 : Int32)) σ x τ) ∧ (¬ (12 : Int32) ≤ l5 → vp_in ((4 : Int32) + l4) 38 ∧ ((¬ (l1 &&& ((cO (σ.1 r0 ((4 : Int32) + l4).toNatClampNeg) l5) ^^^ (-1 : Int32))) = 0 → E_X9_chordBy_23 r0 l1 l2 l3 l4 (l5 + (1 : Int32)) σ x τ) ∧ ((l1 &&& ((cO (σ.1 r0 ((4 : Int32) + l4).toNatClampNeg) l5) ^^^ (-1 : Int32))) = 0 → ∃ (x5 : Int32) (s4 : kS), R_X9_bits (cO (σ.1 r0 ((4 : Int32) + l4).toNatClampNeg) l5) σ x5 s4 ∧ ((l3 ≤ x5 → E_X9_chordBy_23 r0 l1 l2 l3 l4 (l5 + (1 : Int32)) s4 x τ) ∧ (¬ l3 ≤ x5 → ∃ (x8 : Int32) (s7 : kS), R_X9_bits (cO (σ.1 r0 ((4 : Int32) + l4).toNatClampNeg) l5) s4 x8 s7 ∧ (E_X9_chordBy_23 r0 l1 (((12 : Int32) * l4) + l5) x8 l4 (l5 + (1 : Int32)) s7 x τ))))))) : E_X9_chordBy_23 r0 l1 l2 l3 l4 l5 σ x τ := by
  unfold E_X9_chordBy_23
  refine x_iload (pc := 23) dX9_chordBy_23 rfl ?_
  refine x_bipush (pc := 25) (12 : Int32) dX9_chordBy_25 (by decide +kernel) ?_
  refine x_icmp_ge (pc := 27) 82 dX9_chordBy_27 (by decide) (fun c1 => ?_) (fun c1 => ?_)
  · replace h := h.1 c1
    refine x_iinc (pc := 82) (1 : Int32) dX9_chordBy_82 (by decide) rfl rfl (by decide +kernel) ?_
    refine x_goto (pc := 85) 8 dX9_chordBy_85 (by decide) ?_
    exact x_mask [true, true, true, true, true, false, false] h
  · replace h := h.2 c1
    refine x_aload_n (pc := 30) 0 dX9_chordBy_30 rfl rfl ?_
    refine x_iconst (pc := 31) (4 : Int32) dX9_chordBy_31 (by decide +kernel) ?_
    refine x_iload (pc := 32) dX9_chordBy_32 rfl ?_
    refine x_iadd (pc := 34) dX9_chordBy_34 ?_
    obtain ⟨g2, h⟩ := h
    refine x_iaload (pc := 35) (n := 38) dX9_chordBy_35 hr0 g2 ?_
    refine x_iload (pc := 36) dX9_chordBy_36 rfl ?_
    refine x_callS (pc := 38) [(.int (σ.1 r0 ((4 : Int32) + l4).toNatClampNeg)), (.int l5)] [] dX9_chordBy_38 ⟨⟨hX9_chordOn.1, hX9_chordOn.2.1, hX9_chordOn.2.2, by decide⟩, mX9_106, sX9_chordOn⟩ rfl rfl (Nat.le_of_ble_eq_true rfl) (i_X9_chordOn) ?_
    refine x_istore (pc := 41) dX9_chordBy_41 (by decide) rfl ?_
    refine x_iload_n (pc := 43) 1 dX9_chordBy_43 rfl rfl ?_
    refine x_iload (pc := 44) dX9_chordBy_44 rfl ?_
    refine x_iconst (pc := 46) (-1 : Int32) dX9_chordBy_46 (by decide +kernel) ?_
    refine x_ixor (pc := 47) dX9_chordBy_47 ?_
    refine x_iand (pc := 48) dX9_chordBy_48 ?_
    refine x_if_ne (pc := 49) 76 dX9_chordBy_49 (by decide) (fun c3 => ?_) (fun c3 => ?_)
    · replace h := h.1 c3
      refine x_iinc (pc := 76) (1 : Int32) dX9_chordBy_76 (by decide) rfl rfl (by decide +kernel) ?_
      refine x_goto (pc := 79) 23 dX9_chordBy_79 (by decide) ?_
      exact x_mask [true, true, true, true, true, true, false] h
    · replace h := h.2 c3
      refine x_iload (pc := 52) dX9_chordBy_52 rfl ?_
      obtain ⟨x5, s4, hr, h⟩ := h
      refine x_callS (pc := 54) [(.int (cO (σ.1 r0 ((4 : Int32) + l4).toNatClampNeg) l5))] [] dX9_chordBy_54 ⟨⟨hX9_bits.1, hX9_bits.2.1, hX9_bits.2.2, by decide⟩, mX9_76, sX9_bits⟩ rfl rfl (Nat.le_of_ble_eq_true rfl) hr ?_
      refine x_iload_n (pc := 57) 3 dX9_chordBy_57 rfl rfl ?_
      refine x_icmp_ge (pc := 58) 76 dX9_chordBy_58 (by decide) (fun c6 => ?_) (fun c6 => ?_)
      · replace h := h.1 c6
        refine x_iinc (pc := 76) (1 : Int32) dX9_chordBy_76 (by decide) rfl rfl (by decide +kernel) ?_
        refine x_goto (pc := 79) 23 dX9_chordBy_79 (by decide) ?_
        exact x_mask [true, true, true, true, true, true, false] h
      · replace h := h.2 c6
        refine x_iload (pc := 61) dX9_chordBy_61 rfl ?_
        obtain ⟨x8, s7, hr, h⟩ := h
        refine x_callS (pc := 63) [(.int (cO (σ.1 r0 ((4 : Int32) + l4).toNatClampNeg) l5))] [] dX9_chordBy_63 ⟨⟨hX9_bits.1, hX9_bits.2.1, hX9_bits.2.2, by decide⟩, mX9_76, sX9_bits⟩ rfl rfl (Nat.le_of_ble_eq_true rfl) hr ?_
        refine x_istore_n (pc := 66) 3 dX9_chordBy_66 rfl (by decide) rfl ?_
        refine x_bipush (pc := 67) (12 : Int32) dX9_chordBy_67 (by decide +kernel) ?_
        refine x_iload (pc := 69) dX9_chordBy_69 rfl ?_
        refine x_imul (pc := 71) dX9_chordBy_71 ?_
        refine x_iload (pc := 72) dX9_chordBy_72 rfl ?_
        refine x_iadd (pc := 74) dX9_chordBy_74 ?_
        refine x_istore_n (pc := 75) 2 dX9_chordBy_75 rfl (by decide) rfl ?_
        refine x_iinc (pc := 76) (1 : Int32) dX9_chordBy_76 (by decide) rfl rfl (by decide +kernel) ?_
        refine x_goto (pc := 79) 23 dX9_chordBy_79 (by decide) ?_
        exact x_mask [true, true, true, true, true, true, false] h
theorem dX9_missingBy_0 : decode cX9_missingBy 0 = .ok (.iload_n 2, 1) := by decide +kernel
theorem dX9_missingBy_1 : decode cX9_missingBy 1 = .ok (.ifCond .ge 7, 3) := by decide +kernel
theorem dX9_missingBy_4 : decode cX9_missingBy 4 = .ok (.iconst 0, 1) := by decide +kernel
theorem dX9_missingBy_5 : decode cX9_missingBy 5 = .ok (.goto 22, 3) := by decide +kernel
theorem dX9_missingBy_8 : decode cX9_missingBy 8 = .ok (.aload_n 0, 1) := by decide +kernel
theorem dX9_missingBy_9 : decode cX9_missingBy 9 = .ok (.iconst 4, 1) := by decide +kernel
theorem dX9_missingBy_10 : decode cX9_missingBy 10 = .ok (.iload_n 2, 1) := by decide +kernel
theorem dX9_missingBy_11 : decode cX9_missingBy 11 = .ok (.bipush 12, 2) := by decide +kernel
theorem dX9_missingBy_13 : decode cX9_missingBy 13 = .ok (.idiv, 1) := by decide +kernel
theorem dX9_missingBy_14 : decode cX9_missingBy 14 = .ok (.iadd, 1) := by decide +kernel
theorem dX9_missingBy_15 : decode cX9_missingBy 15 = .ok (.iaload, 1) := by decide +kernel
theorem dX9_missingBy_16 : decode cX9_missingBy 16 = .ok (.iload_n 2, 1) := by decide +kernel
theorem dX9_missingBy_17 : decode cX9_missingBy 17 = .ok (.bipush 12, 2) := by decide +kernel
theorem dX9_missingBy_19 : decode cX9_missingBy 19 = .ok (.irem, 1) := by decide +kernel
theorem dX9_missingBy_20 : decode cX9_missingBy 20 = .ok (.invokestatic 106, 3) := by decide +kernel
theorem dX9_missingBy_23 : decode cX9_missingBy 23 = .ok (.iload_n 1, 1) := by decide +kernel
theorem dX9_missingBy_24 : decode cX9_missingBy 24 = .ok (.iconst (-1), 1) := by decide +kernel
theorem dX9_missingBy_25 : decode cX9_missingBy 25 = .ok (.ixor, 1) := by decide +kernel
theorem dX9_missingBy_26 : decode cX9_missingBy 26 = .ok (.iand, 1) := by decide +kernel
theorem dX9_missingBy_27 : decode cX9_missingBy 27 = .ok (.ireturn, 1) := by decide +kernel
def R_X9_missingBy (r0 : Nat) (a1 : Int32) (a2 : Int32) (σ : kS) (x : Int32) (τ : kS) : Prop := Run SM jX9_missingBy [(.ref r0), (.int a1), (.int a2)] σ (some (.int x)) τ
set_option maxRecDepth 20000 in
theorem t_X9_missingBy {r0 : Nat} {a1 : Int32} {a2 : Int32} {σ : kS} {x : Int32} {τ : kS} (hr0 : k_is SM r0 1 38 = true) (h : (0 ≤ a2 → vp_in ((4 : Int32) + (a2 / (12 : Int32))) 38 ∧ (x = ((cO (σ.1 r0 ((4 : Int32) + (a2 / (12 : Int32))).toNatClampNeg) (a2 - a2 / (12 : Int32) * (12 : Int32))) &&& (a1 ^^^ (-1 : Int32))) ∧ τ = σ)) ∧ (¬ 0 ≤ a2 → x = (0 : Int32) ∧ τ = σ)) : R_X9_missingBy r0 a1 a2 σ x τ := by
  refine x_run [some (.ref r0), some (.int a1), some (.int a2)] (by decide +kernel) rfl (Nat.le_of_ble_eq_true rfl) ?_
  refine x_iload_n (pc := 0) 2 dX9_missingBy_0 rfl rfl ?_
  refine x_if_ge (pc := 1) 8 dX9_missingBy_1 (by decide) (fun c1 => ?_) (fun c1 => ?_)
  · replace h := h.1 c1
    refine x_aload_n (pc := 8) 0 dX9_missingBy_8 rfl rfl ?_
    refine x_iconst (pc := 9) (4 : Int32) dX9_missingBy_9 (by decide +kernel) ?_
    refine x_iload_n (pc := 10) 2 dX9_missingBy_10 rfl rfl ?_
    refine x_bipush (pc := 11) (12 : Int32) dX9_missingBy_11 (by decide +kernel) ?_
    refine x_idiv (pc := 13) dX9_missingBy_13 (by decide) ?_
    refine x_iadd (pc := 14) dX9_missingBy_14 ?_
    obtain ⟨g2, h⟩ := h
    refine x_iaload (pc := 15) (n := 38) dX9_missingBy_15 hr0 g2 ?_
    refine x_iload_n (pc := 16) 2 dX9_missingBy_16 rfl rfl ?_
    refine x_bipush (pc := 17) (12 : Int32) dX9_missingBy_17 (by decide +kernel) ?_
    refine x_irem (pc := 19) dX9_missingBy_19 (by decide) ?_
    refine x_callS (pc := 20) [(.int (σ.1 r0 ((4 : Int32) + (a2 / (12 : Int32))).toNatClampNeg)), (.int (a2 - a2 / (12 : Int32) * (12 : Int32)))] [] dX9_missingBy_20 ⟨⟨hX9_chordOn.1, hX9_chordOn.2.1, hX9_chordOn.2.2, by decide⟩, mX9_106, sX9_chordOn⟩ rfl rfl (Nat.le_of_ble_eq_true rfl) (i_X9_chordOn) ?_
    refine x_iload_n (pc := 23) 1 dX9_missingBy_23 rfl rfl ?_
    refine x_iconst (pc := 24) (-1 : Int32) dX9_missingBy_24 (by decide +kernel) ?_
    refine x_ixor (pc := 25) dX9_missingBy_25 ?_
    refine x_iand (pc := 26) dX9_missingBy_26 ?_
    exact x_ireturn2 (pc := 27) dX9_missingBy_27 rfl h.1 h.2
  · replace h := h.2 c1
    refine x_iconst (pc := 4) (0 : Int32) dX9_missingBy_4 (by decide +kernel) ?_
    refine x_goto (pc := 5) 27 dX9_missingBy_5 (by decide) ?_
    exact x_ireturn2 (pc := 27) dX9_missingBy_27 rfl h.1 h.2
theorem dX9_whoAt_0 : decode cX9_whoAt 0 = .ok (.iconst 0, 1) := by decide +kernel
theorem dX9_whoAt_1 : decode cX9_whoAt 1 = .ok (.istore_n 2, 1) := by decide +kernel
theorem dX9_whoAt_2 : decode cX9_whoAt 2 = .ok (.iconst 0, 1) := by decide +kernel
theorem dX9_whoAt_3 : decode cX9_whoAt 3 = .ok (.istore_n 3, 1) := by decide +kernel
theorem dX9_whoAt_4 : decode cX9_whoAt 4 = .ok (.iload_n 3, 1) := by decide +kernel
theorem dX9_whoAt_5 : decode cX9_whoAt 5 = .ok (.aload_n 0, 1) := by decide +kernel
theorem dX9_whoAt_6 : decode cX9_whoAt 6 = .ok (.iconst 3, 1) := by decide +kernel
theorem dX9_whoAt_7 : decode cX9_whoAt 7 = .ok (.iaload, 1) := by decide +kernel
theorem dX9_whoAt_8 : decode cX9_whoAt 8 = .ok (.if_icmp .ge 29, 3) := by decide +kernel
theorem dX9_whoAt_11 : decode cX9_whoAt 11 = .ok (.iload_n 2, 1) := by decide +kernel
theorem dX9_whoAt_12 : decode cX9_whoAt 12 = .ok (.aload_n 0, 1) := by decide +kernel
theorem dX9_whoAt_13 : decode cX9_whoAt 13 = .ok (.bipush 33, 2) := by decide +kernel
theorem dX9_whoAt_15 : decode cX9_whoAt 15 = .ok (.iload_n 3, 1) := by decide +kernel
theorem dX9_whoAt_16 : decode cX9_whoAt 16 = .ok (.iadd, 1) := by decide +kernel
theorem dX9_whoAt_17 : decode cX9_whoAt 17 = .ok (.iaload, 1) := by decide +kernel
theorem dX9_whoAt_18 : decode cX9_whoAt 18 = .ok (.iload_n 1, 1) := by decide +kernel
theorem dX9_whoAt_19 : decode cX9_whoAt 19 = .ok (.if_icmp .ne 9, 3) := by decide +kernel
theorem dX9_whoAt_22 : decode cX9_whoAt 22 = .ok (.iconst 1, 1) := by decide +kernel
theorem dX9_whoAt_23 : decode cX9_whoAt 23 = .ok (.iload_n 3, 1) := by decide +kernel
theorem dX9_whoAt_24 : decode cX9_whoAt 24 = .ok (.ishl, 1) := by decide +kernel
theorem dX9_whoAt_25 : decode cX9_whoAt 25 = .ok (.goto 4, 3) := by decide +kernel
theorem dX9_whoAt_28 : decode cX9_whoAt 28 = .ok (.iconst 0, 1) := by decide +kernel
theorem dX9_whoAt_29 : decode cX9_whoAt 29 = .ok (.ior, 1) := by decide +kernel
theorem dX9_whoAt_30 : decode cX9_whoAt 30 = .ok (.istore_n 2, 1) := by decide +kernel
theorem dX9_whoAt_31 : decode cX9_whoAt 31 = .ok (.iinc 3 1, 3) := by decide +kernel
theorem dX9_whoAt_34 : decode cX9_whoAt 34 = .ok (.goto (-30), 3) := by decide +kernel
theorem dX9_whoAt_37 : decode cX9_whoAt 37 = .ok (.iload_n 2, 1) := by decide +kernel
theorem dX9_whoAt_38 : decode cX9_whoAt 38 = .ok (.ireturn, 1) := by decide +kernel
def R_X9_whoAt (r0 : Nat) (a1 : Int32) (σ : kS) (x : Int32) (τ : kS) : Prop := Run SM jX9_whoAt [(.ref r0), (.int a1)] σ (some (.int x)) τ
def E_X9_whoAt_4 (r0 : Nat) (l1 : Int32) (l2 : Int32) (l3 : Int32) (σ : kS) (x : Int32) (τ : kS) : Prop := Ex SM jX9_whoAt 4 [some (.ref r0), some (.int l1), some (.int l2), some (.int l3)] [] σ (some (.int x)) τ
set_option maxRecDepth 20000 in
theorem t_X9_whoAt {r0 : Nat} {a1 : Int32} {σ : kS} {x : Int32} {τ : kS} (hr0 : k_is SM r0 1 38 = true) (h : E_X9_whoAt_4 r0 a1 (0 : Int32) (0 : Int32) σ x τ) : R_X9_whoAt r0 a1 σ x τ := by
  refine x_run [some (.ref r0), some (.int a1), none, none] (by decide +kernel) rfl (Nat.le_of_ble_eq_true rfl) ?_
  refine x_iconst (pc := 0) (0 : Int32) dX9_whoAt_0 (by decide +kernel) ?_
  refine x_istore_n (pc := 1) 2 dX9_whoAt_1 rfl (by decide) rfl ?_
  refine x_iconst (pc := 2) (0 : Int32) dX9_whoAt_2 (by decide +kernel) ?_
  refine x_istore_n (pc := 3) 3 dX9_whoAt_3 rfl (by decide) rfl ?_
  exact h
set_option maxRecDepth 20000 in
theorem t_X9_whoAt_4 {r0 : Nat} {l1 : Int32} {l2 : Int32} {l3 : Int32} {σ : kS} {x : Int32} {τ : kS} (hr0 : k_is SM r0 1 38 = true) (h : ((σ.1 r0 3) ≤ l3 → x = l2 ∧ τ = σ) ∧ (¬ (σ.1 r0 3) ≤ l3 → vp_in ((33 : Int32) + l3) 38 ∧ ((¬ (σ.1 r0 ((33 : Int32) + l3).toNatClampNeg) = l1 → E_X9_whoAt_4 r0 l1 (l2 ||| (0 : Int32)) (l3 + (1 : Int32)) σ x τ) ∧ ((σ.1 r0 ((33 : Int32) + l3).toNatClampNeg) = l1 → E_X9_whoAt_4 r0 l1 (l2 ||| ((1 : Int32) <<< (l3 &&& 31))) (l3 + (1 : Int32)) σ x τ)))) : E_X9_whoAt_4 r0 l1 l2 l3 σ x τ := by
  unfold E_X9_whoAt_4
  refine x_iload_n (pc := 4) 3 dX9_whoAt_4 rfl rfl ?_
  refine x_aload_n (pc := 5) 0 dX9_whoAt_5 rfl rfl ?_
  refine x_iconst (pc := 6) (3 : Int32) dX9_whoAt_6 (by decide +kernel) ?_
  refine x_ialoadK (pc := 7) (n := 38) 3 dX9_whoAt_7 hr0 (by decide) (by decide +kernel) ?_
  refine x_icmp_ge (pc := 8) 37 dX9_whoAt_8 (by decide) (fun c1 => ?_) (fun c1 => ?_)
  · replace h := h.1 c1
    refine x_iload_n (pc := 37) 2 dX9_whoAt_37 rfl rfl ?_
    exact x_ireturn2 (pc := 38) dX9_whoAt_38 rfl h.1 h.2
  · replace h := h.2 c1
    refine x_iload_n (pc := 11) 2 dX9_whoAt_11 rfl rfl ?_
    refine x_aload_n (pc := 12) 0 dX9_whoAt_12 rfl rfl ?_
    refine x_bipush (pc := 13) (33 : Int32) dX9_whoAt_13 (by decide +kernel) ?_
    refine x_iload_n (pc := 15) 3 dX9_whoAt_15 rfl rfl ?_
    refine x_iadd (pc := 16) dX9_whoAt_16 ?_
    obtain ⟨g2, h⟩ := h
    refine x_iaload (pc := 17) (n := 38) dX9_whoAt_17 hr0 g2 ?_
    refine x_iload_n (pc := 18) 1 dX9_whoAt_18 rfl rfl ?_
    refine x_icmp_ne (pc := 19) 28 dX9_whoAt_19 (by decide) (fun c3 => ?_) (fun c3 => ?_)
    · replace h := h.1 c3
      refine x_iconst (pc := 28) (0 : Int32) dX9_whoAt_28 (by decide +kernel) ?_
      refine x_ior (pc := 29) dX9_whoAt_29 ?_
      refine x_istore_n (pc := 30) 2 dX9_whoAt_30 rfl (by decide) rfl ?_
      refine x_iinc (pc := 31) (1 : Int32) dX9_whoAt_31 (by decide) rfl rfl (by decide +kernel) ?_
      refine x_goto (pc := 34) 4 dX9_whoAt_34 (by decide) ?_
      exact h
    · replace h := h.2 c3
      refine x_iconst (pc := 22) (1 : Int32) dX9_whoAt_22 (by decide +kernel) ?_
      refine x_iload_n (pc := 23) 3 dX9_whoAt_23 rfl rfl ?_
      refine x_ishl (pc := 24) dX9_whoAt_24 ?_
      refine x_goto (pc := 25) 29 dX9_whoAt_25 (by decide) ?_
      refine x_ior (pc := 29) dX9_whoAt_29 ?_
      refine x_istore_n (pc := 30) 2 dX9_whoAt_30 rfl (by decide) rfl ?_
      refine x_iinc (pc := 31) (1 : Int32) dX9_whoAt_31 (by decide) rfl rfl (by decide +kernel) ?_
      refine x_goto (pc := 34) 4 dX9_whoAt_34 (by decide) ?_
      exact h
theorem dX9_chord_0 : decode cX9_chord 0 = .ok (.aload_n 0, 1) := by decide +kernel
theorem dX9_chord_1 : decode cX9_chord 1 = .ok (.invokevirtual 110, 3) := by decide +kernel
theorem dX9_chord_4 : decode cX9_chord 4 = .ok (.ifCond .eq 23, 3) := by decide +kernel
theorem dX9_chord_7 : decode cX9_chord 7 = .ok (.iload_n 1, 1) := by decide +kernel
theorem dX9_chord_8 : decode cX9_chord 8 = .ok (.iconst 0, 1) := by decide +kernel
theorem dX9_chord_9 : decode cX9_chord 9 = .ok (.sipush 4095, 3) := by decide +kernel
theorem dX9_chord_12 : decode cX9_chord 12 = .ok (.invokestatic 54, 3) := by decide +kernel
theorem dX9_chord_15 : decode cX9_chord 15 = .ok (.ifCond .eq 12, 3) := by decide +kernel
theorem dX9_chord_18 : decode cX9_chord 18 = .ok (.iload_n 2, 1) := by decide +kernel
theorem dX9_chord_19 : decode cX9_chord 19 = .ok (.iconst 0, 1) := by decide +kernel
theorem dX9_chord_20 : decode cX9_chord 20 = .ok (.iconst 2, 1) := by decide +kernel
theorem dX9_chord_21 : decode cX9_chord 21 = .ok (.invokestatic 54, 3) := by decide +kernel
theorem dX9_chord_24 : decode cX9_chord 24 = .ok (.ifCond .ne 5, 3) := by decide +kernel
theorem dX9_chord_27 : decode cX9_chord 27 = .ok (.iconst (-1), 1) := by decide +kernel
theorem dX9_chord_28 : decode cX9_chord 28 = .ok (.ireturn, 1) := by decide +kernel
theorem dX9_chord_29 : decode cX9_chord 29 = .ok (.aload_n 0, 1) := by decide +kernel
theorem dX9_chord_30 : decode cX9_chord 30 = .ok (.getfield 23, 3) := by decide +kernel
theorem dX9_chord_33 : decode cX9_chord 33 = .ok (.iload_n 1, 1) := by decide +kernel
theorem dX9_chord_34 : decode cX9_chord 34 = .ok (.invokestatic 113, 3) := by decide +kernel
theorem dX9_chord_37 : decode cX9_chord 37 = .ok (.istore_n 3, 1) := by decide +kernel
theorem dX9_chord_38 : decode cX9_chord 38 = .ok (.iload_n 2, 1) := by decide +kernel
theorem dX9_chord_39 : decode cX9_chord 39 = .ok (.iconst 2, 1) := by decide +kernel
theorem dX9_chord_40 : decode cX9_chord 40 = .ok (.if_icmp .ne 15, 3) := by decide +kernel
theorem dX9_chord_43 : decode cX9_chord 43 = .ok (.aload_n 0, 1) := by decide +kernel
theorem dX9_chord_44 : decode cX9_chord 44 = .ok (.getfield 23, 3) := by decide +kernel
theorem dX9_chord_47 : decode cX9_chord 47 = .ok (.iload_n 1, 1) := by decide +kernel
theorem dX9_chord_48 : decode cX9_chord 48 = .ok (.iload_n 3, 1) := by decide +kernel
theorem dX9_chord_49 : decode cX9_chord 49 = .ok (.invokestatic 117, 3) := by decide +kernel
theorem dX9_chord_52 : decode cX9_chord 52 = .ok (.goto 27, 3) := by decide +kernel
theorem dX9_chord_55 : decode cX9_chord 55 = .ok (.iload_n 3, 1) := by decide +kernel
theorem dX9_chord_56 : decode cX9_chord 56 = .ok (.ifCond .ge 8, 3) := by decide +kernel
theorem dX9_chord_59 : decode cX9_chord 59 = .ok (.bipush (-4), 2) := by decide +kernel
theorem dX9_chord_61 : decode cX9_chord 61 = .ok (.goto 18, 3) := by decide +kernel
theorem dX9_chord_64 : decode cX9_chord 64 = .ok (.iload_n 2, 1) := by decide +kernel
theorem dX9_chord_65 : decode cX9_chord 65 = .ok (.ifCond .ne 10, 3) := by decide +kernel
theorem dX9_chord_68 : decode cX9_chord 68 = .ok (.iload_n 3, 1) := by decide +kernel
theorem dX9_chord_69 : decode cX9_chord 69 = .ok (.bipush 12, 2) := by decide +kernel
theorem dX9_chord_71 : decode cX9_chord 71 = .ok (.idiv, 1) := by decide +kernel
theorem dX9_chord_72 : decode cX9_chord 72 = .ok (.goto 7, 3) := by decide +kernel
theorem dX9_chord_75 : decode cX9_chord 75 = .ok (.iload_n 3, 1) := by decide +kernel
theorem dX9_chord_76 : decode cX9_chord 76 = .ok (.bipush 12, 2) := by decide +kernel
theorem dX9_chord_78 : decode cX9_chord 78 = .ok (.irem, 1) := by decide +kernel
theorem dX9_chord_79 : decode cX9_chord 79 = .ok (.ireturn, 1) := by decide +kernel
def R_X9_chord (a1 : Int32) (a2 : Int32) (σ : kS) (x : Int32) (τ : kS) : Prop := Run SM jX9_chord [(.ref 0), (.int a1), (.int a2)] σ (some (.int x)) τ
set_option maxRecDepth 20000 in
theorem t_X9_chord {a1 : Int32} {a2 : Int32} {σ : kS} {x : Int32} {τ : kS}  (h : (¬ (0 < (σ.1 5 1)) → x = (-1 : Int32) ∧ τ = σ) ∧ ((0 < (σ.1 5 1)) → (¬ (iv a1 (0 : Int32) (4095 : Int32)) → x = (-1 : Int32) ∧ τ = σ) ∧ ((iv a1 (0 : Int32) (4095 : Int32)) → ((iv a2 (0 : Int32) (2 : Int32)) → ∃ (x5 : Int32) (s4 : kS), R_X9_chordBy 5 a1 σ x5 s4 ∧ ((¬ a2 = (2 : Int32) → (0 ≤ x5 → (¬ a2 = 0 → x = (x5 - x5 / (12 : Int32) * (12 : Int32)) ∧ τ = s4) ∧ (a2 = 0 → x = (x5 / (12 : Int32)) ∧ τ = s4)) ∧ (¬ 0 ≤ x5 → x = (-4 : Int32) ∧ τ = s4)) ∧ (a2 = (2 : Int32) → ∃ (x10 : Int32) (s9 : kS), R_X9_missingBy 5 a1 x5 s4 x10 s9 ∧ (x = x10 ∧ τ = s9)))) ∧ (¬ (iv a2 (0 : Int32) (2 : Int32)) → x = (-1 : Int32) ∧ τ = σ)))) : R_X9_chord a1 a2 σ x τ := by
  refine x_run [some (.ref 0), some (.int a1), some (.int a2), none] (by decide +kernel) rfl (Nat.le_of_ble_eq_true rfl) ?_
  refine x_aload_n (pc := 0) 0 dX9_chord_0 rfl rfl ?_
  refine x_callV (pc := 1) [] [] dX9_chord_1 ⟨⟨hX9_isThere.1, hX9_isThere.2.1, hX9_isThere.2.2, by decide⟩, mX9_110, vX9_isThere.1, vX9_isThere.2⟩ (ci := 9) rfl rfl rfl rfl (Nat.le_of_ble_eq_true rfl) (i_X9_isThere) ?_
  refine x_bif_eq (pc := 4) 27 dX9_chord_4 (by decide) (fun c1 => ?_) (fun c1 => ?_)
  · replace h := h.1 c1
    refine x_iconst (pc := 27) (-1 : Int32) dX9_chord_27 (by decide +kernel) ?_
    exact x_ireturn2 (pc := 28) dX9_chord_28 rfl h.1 h.2
  · replace h := h.2 c1
    refine x_iload_n (pc := 7) 1 dX9_chord_7 rfl rfl ?_
    refine x_iconst (pc := 8) (0 : Int32) dX9_chord_8 (by decide +kernel) ?_
    refine x_sipush (pc := 9) (4095 : Int32) dX9_chord_9 (by decide +kernel) ?_
    refine x_callS (pc := 12) [(.int a1), (.int (0 : Int32)), (.int (4095 : Int32))] [] dX9_chord_12 ⟨⟨hX9_in.1, hX9_in.2.1, hX9_in.2.2, by decide⟩, mX9_54, sX9_in⟩ rfl rfl (Nat.le_of_ble_eq_true rfl) (i_X9_in) ?_
    refine x_bif_eq (pc := 15) 27 dX9_chord_15 (by decide) (fun c2 => ?_) (fun c2 => ?_)
    · replace h := h.1 c2
      refine x_iconst (pc := 27) (-1 : Int32) dX9_chord_27 (by decide +kernel) ?_
      exact x_ireturn2 (pc := 28) dX9_chord_28 rfl h.1 h.2
    · replace h := h.2 c2
      refine x_iload_n (pc := 18) 2 dX9_chord_18 rfl rfl ?_
      refine x_iconst (pc := 19) (0 : Int32) dX9_chord_19 (by decide +kernel) ?_
      refine x_iconst (pc := 20) (2 : Int32) dX9_chord_20 (by decide +kernel) ?_
      refine x_callS (pc := 21) [(.int a2), (.int (0 : Int32)), (.int (2 : Int32))] [] dX9_chord_21 ⟨⟨hX9_in.1, hX9_in.2.1, hX9_in.2.2, by decide⟩, mX9_54, sX9_in⟩ rfl rfl (Nat.le_of_ble_eq_true rfl) (i_X9_in) ?_
      refine x_bif_ne (pc := 24) 29 dX9_chord_24 (by decide) (fun c3 => ?_) (fun c3 => ?_)
      · replace h := h.1 c3
        refine x_aload_n (pc := 29) 0 dX9_chord_29 rfl rfl ?_
        refine x_getR (pc := 30) dX9_chord_30 fX9_23 rfl rfl ?_
        refine x_iload_n (pc := 33) 1 dX9_chord_33 rfl rfl ?_
        obtain ⟨x5, s4, hr, h⟩ := h
        refine x_callS (pc := 34) [(.ref 5), (.int a1)] [] dX9_chord_34 ⟨⟨hX9_chordBy.1, hX9_chordBy.2.1, hX9_chordBy.2.2, by decide⟩, mX9_113, sX9_chordBy⟩ rfl rfl (Nat.le_of_ble_eq_true rfl) hr ?_
        refine x_istore_n (pc := 37) 3 dX9_chord_37 rfl (by decide) rfl ?_
        refine x_iload_n (pc := 38) 2 dX9_chord_38 rfl rfl ?_
        refine x_iconst (pc := 39) (2 : Int32) dX9_chord_39 (by decide +kernel) ?_
        refine x_icmp_ne (pc := 40) 55 dX9_chord_40 (by decide) (fun c6 => ?_) (fun c6 => ?_)
        · replace h := h.1 c6
          refine x_iload_n (pc := 55) 3 dX9_chord_55 rfl rfl ?_
          refine x_if_ge (pc := 56) 64 dX9_chord_56 (by decide) (fun c7 => ?_) (fun c7 => ?_)
          · replace h := h.1 c7
            refine x_iload_n (pc := 64) 2 dX9_chord_64 rfl rfl ?_
            refine x_if_ne (pc := 65) 75 dX9_chord_65 (by decide) (fun c8 => ?_) (fun c8 => ?_)
            · replace h := h.1 c8
              refine x_iload_n (pc := 75) 3 dX9_chord_75 rfl rfl ?_
              refine x_bipush (pc := 76) (12 : Int32) dX9_chord_76 (by decide +kernel) ?_
              refine x_irem (pc := 78) dX9_chord_78 (by decide) ?_
              exact x_ireturn2 (pc := 79) dX9_chord_79 rfl h.1 h.2
            · replace h := h.2 c8
              refine x_iload_n (pc := 68) 3 dX9_chord_68 rfl rfl ?_
              refine x_bipush (pc := 69) (12 : Int32) dX9_chord_69 (by decide +kernel) ?_
              refine x_idiv (pc := 71) dX9_chord_71 (by decide) ?_
              refine x_goto (pc := 72) 79 dX9_chord_72 (by decide) ?_
              exact x_ireturn2 (pc := 79) dX9_chord_79 rfl h.1 h.2
          · replace h := h.2 c7
            refine x_bipush (pc := 59) (-4 : Int32) dX9_chord_59 (by decide +kernel) ?_
            refine x_goto (pc := 61) 79 dX9_chord_61 (by decide) ?_
            exact x_ireturn2 (pc := 79) dX9_chord_79 rfl h.1 h.2
        · replace h := h.2 c6
          refine x_aload_n (pc := 43) 0 dX9_chord_43 rfl rfl ?_
          refine x_getR (pc := 44) dX9_chord_44 fX9_23 rfl rfl ?_
          refine x_iload_n (pc := 47) 1 dX9_chord_47 rfl rfl ?_
          refine x_iload_n (pc := 48) 3 dX9_chord_48 rfl rfl ?_
          obtain ⟨x10, s9, hr, h⟩ := h
          refine x_callS (pc := 49) [(.ref 5), (.int a1), (.int x5)] [] dX9_chord_49 ⟨⟨hX9_missingBy.1, hX9_missingBy.2.1, hX9_missingBy.2.2, by decide⟩, mX9_117, sX9_missingBy⟩ rfl rfl (Nat.le_of_ble_eq_true rfl) hr ?_
          refine x_goto (pc := 52) 79 dX9_chord_52 (by decide) ?_
          exact x_ireturn2 (pc := 79) dX9_chord_79 rfl h.1 h.2
      · replace h := h.2 c3
        refine x_iconst (pc := 27) (-1 : Int32) dX9_chord_27 (by decide +kernel) ?_
        exact x_ireturn2 (pc := 28) dX9_chord_28 rfl h.1 h.2
theorem dX9_field_0 : decode cX9_field 0 = .ok (.aload_n 0, 1) := by decide +kernel
theorem dX9_field_1 : decode cX9_field 1 = .ok (.iload_n 1, 1) := by decide +kernel
theorem dX9_field_2 : decode cX9_field 2 = .ok (.invokevirtual 121, 3) := by decide +kernel
theorem dX9_field_5 : decode cX9_field 5 = .ok (.ifCond .eq 12, 3) := by decide +kernel
theorem dX9_field_8 : decode cX9_field 8 = .ok (.iload_n 2, 1) := by decide +kernel
theorem dX9_field_9 : decode cX9_field 9 = .ok (.iconst 0, 1) := by decide +kernel
theorem dX9_field_10 : decode cX9_field 10 = .ok (.iconst 4, 1) := by decide +kernel
theorem dX9_field_11 : decode cX9_field 11 = .ok (.invokestatic 54, 3) := by decide +kernel
theorem dX9_field_14 : decode cX9_field 14 = .ok (.ifCond .ne 5, 3) := by decide +kernel
theorem dX9_field_17 : decode cX9_field 17 = .ok (.iconst (-1), 1) := by decide +kernel
theorem dX9_field_18 : decode cX9_field 18 = .ok (.ireturn, 1) := by decide +kernel
theorem dX9_field_19 : decode cX9_field 19 = .ok (.iload_n 2, 1) := by decide +kernel
theorem dX9_field_20 : decode cX9_field 20 = .ok (.ifCond .ne 15, 3) := by decide +kernel
theorem dX9_field_23 : decode cX9_field 23 = .ok (.aload_n 0, 1) := by decide +kernel
theorem dX9_field_24 : decode cX9_field 24 = .ok (.getfield 23, 3) := by decide +kernel
theorem dX9_field_27 : decode cX9_field 27 = .ok (.bipush 8, 2) := by decide +kernel
theorem dX9_field_29 : decode cX9_field 29 = .ok (.iload_n 1, 1) := by decide +kernel
theorem dX9_field_30 : decode cX9_field 30 = .ok (.iadd, 1) := by decide +kernel
theorem dX9_field_31 : decode cX9_field 31 = .ok (.iaload, 1) := by decide +kernel
theorem dX9_field_32 : decode cX9_field 32 = .ok (.goto 35, 3) := by decide +kernel
theorem dX9_field_35 : decode cX9_field 35 = .ok (.iload_n 2, 1) := by decide +kernel
theorem dX9_field_36 : decode cX9_field 36 = .ok (.iconst 4, 1) := by decide +kernel
theorem dX9_field_37 : decode cX9_field 37 = .ok (.if_icmp .ne 14, 3) := by decide +kernel
theorem dX9_field_40 : decode cX9_field 40 = .ok (.aload_n 0, 1) := by decide +kernel
theorem dX9_field_41 : decode cX9_field 41 = .ok (.getfield 23, 3) := by decide +kernel
theorem dX9_field_44 : decode cX9_field 44 = .ok (.iload_n 1, 1) := by decide +kernel
theorem dX9_field_45 : decode cX9_field 45 = .ok (.invokestatic 124, 3) := by decide +kernel
theorem dX9_field_48 : decode cX9_field 48 = .ok (.goto 19, 3) := by decide +kernel
theorem dX9_field_51 : decode cX9_field 51 = .ok (.aload_n 0, 1) := by decide +kernel
theorem dX9_field_52 : decode cX9_field 52 = .ok (.aload_n 0, 1) := by decide +kernel
theorem dX9_field_53 : decode cX9_field 53 = .ok (.getfield 23, 3) := by decide +kernel
theorem dX9_field_56 : decode cX9_field 56 = .ok (.bipush 8, 2) := by decide +kernel
theorem dX9_field_58 : decode cX9_field 58 = .ok (.iload_n 1, 1) := by decide +kernel
theorem dX9_field_59 : decode cX9_field 59 = .ok (.iadd, 1) := by decide +kernel
theorem dX9_field_60 : decode cX9_field 60 = .ok (.iaload, 1) := by decide +kernel
theorem dX9_field_61 : decode cX9_field 61 = .ok (.iload_n 2, 1) := by decide +kernel
theorem dX9_field_62 : decode cX9_field 62 = .ok (.iconst 1, 1) := by decide +kernel
theorem dX9_field_63 : decode cX9_field 63 = .ok (.isub, 1) := by decide +kernel
theorem dX9_field_64 : decode cX9_field 64 = .ok (.invokevirtual 127, 3) := by decide +kernel
theorem dX9_field_67 : decode cX9_field 67 = .ok (.ireturn, 1) := by decide +kernel
def R_X9_field (a1 : Int32) (a2 : Int32) (σ : kS) (x : Int32) (τ : kS) : Prop := Run SM jX9_field [(.ref 0), (.int a1), (.int a2)] σ (some (.int x)) τ
set_option maxRecDepth 20000 in
theorem t_X9_field {a1 : Int32} {a2 : Int32} {σ : kS} {x : Int32} {τ : kS}  (h : (¬ (iv a1 0 ((σ.1 5 2) - 1)) → x = (-1 : Int32) ∧ τ = σ) ∧ ((iv a1 0 ((σ.1 5 2) - 1)) → ((iv a2 (0 : Int32) (4 : Int32)) → (¬ a2 = 0 → (¬ a2 = (4 : Int32) → vp_in ((8 : Int32) + a1) 38 ∧ (∃ (x7 : Int32) (s6 : kS), R_X9_chord (σ.1 5 ((8 : Int32) + a1).toNatClampNeg) (a2 - (1 : Int32)) σ x7 s6 ∧ (x = x7 ∧ τ = s6))) ∧ (a2 = (4 : Int32) → ∃ (x9 : Int32) (s8 : kS), R_X9_whoAt 5 a1 σ x9 s8 ∧ (x = x9 ∧ τ = s8))) ∧ (a2 = 0 → vp_in ((8 : Int32) + a1) 38 ∧ (x = (σ.1 5 ((8 : Int32) + a1).toNatClampNeg) ∧ τ = σ))) ∧ (¬ (iv a2 (0 : Int32) (4 : Int32)) → x = (-1 : Int32) ∧ τ = σ))) : R_X9_field a1 a2 σ x τ := by
  refine x_run [some (.ref 0), some (.int a1), some (.int a2)] (by decide +kernel) rfl (Nat.le_of_ble_eq_true rfl) ?_
  refine x_aload_n (pc := 0) 0 dX9_field_0 rfl rfl ?_
  refine x_iload_n (pc := 1) 1 dX9_field_1 rfl rfl ?_
  refine x_callV (pc := 2) [(.int a1)] [] dX9_field_2 ⟨⟨hX9_isField.1, hX9_isField.2.1, hX9_isField.2.2, by decide⟩, mX9_121, vX9_isField.1, vX9_isField.2⟩ (ci := 9) rfl rfl rfl rfl (Nat.le_of_ble_eq_true rfl) (i_X9_isField) ?_
  refine x_bif_eq (pc := 5) 17 dX9_field_5 (by decide) (fun c1 => ?_) (fun c1 => ?_)
  · replace h := h.1 c1
    refine x_iconst (pc := 17) (-1 : Int32) dX9_field_17 (by decide +kernel) ?_
    exact x_ireturn2 (pc := 18) dX9_field_18 rfl h.1 h.2
  · replace h := h.2 c1
    refine x_iload_n (pc := 8) 2 dX9_field_8 rfl rfl ?_
    refine x_iconst (pc := 9) (0 : Int32) dX9_field_9 (by decide +kernel) ?_
    refine x_iconst (pc := 10) (4 : Int32) dX9_field_10 (by decide +kernel) ?_
    refine x_callS (pc := 11) [(.int a2), (.int (0 : Int32)), (.int (4 : Int32))] [] dX9_field_11 ⟨⟨hX9_in.1, hX9_in.2.1, hX9_in.2.2, by decide⟩, mX9_54, sX9_in⟩ rfl rfl (Nat.le_of_ble_eq_true rfl) (i_X9_in) ?_
    refine x_bif_ne (pc := 14) 19 dX9_field_14 (by decide) (fun c2 => ?_) (fun c2 => ?_)
    · replace h := h.1 c2
      refine x_iload_n (pc := 19) 2 dX9_field_19 rfl rfl ?_
      refine x_if_ne (pc := 20) 35 dX9_field_20 (by decide) (fun c3 => ?_) (fun c3 => ?_)
      · replace h := h.1 c3
        refine x_iload_n (pc := 35) 2 dX9_field_35 rfl rfl ?_
        refine x_iconst (pc := 36) (4 : Int32) dX9_field_36 (by decide +kernel) ?_
        refine x_icmp_ne (pc := 37) 51 dX9_field_37 (by decide) (fun c4 => ?_) (fun c4 => ?_)
        · replace h := h.1 c4
          refine x_aload_n (pc := 51) 0 dX9_field_51 rfl rfl ?_
          refine x_aload_n (pc := 52) 0 dX9_field_52 rfl rfl ?_
          refine x_getR (pc := 53) dX9_field_53 fX9_23 rfl rfl ?_
          refine x_bipush (pc := 56) (8 : Int32) dX9_field_56 (by decide +kernel) ?_
          refine x_iload_n (pc := 58) 1 dX9_field_58 rfl rfl ?_
          refine x_iadd (pc := 59) dX9_field_59 ?_
          obtain ⟨g5, h⟩ := h
          refine x_iaload (pc := 60) (n := 38) dX9_field_60 rfl g5 ?_
          refine x_iload_n (pc := 61) 2 dX9_field_61 rfl rfl ?_
          refine x_iconst (pc := 62) (1 : Int32) dX9_field_62 (by decide +kernel) ?_
          refine x_isub (pc := 63) dX9_field_63 ?_
          obtain ⟨x7, s6, hr, h⟩ := h
          refine x_callV (pc := 64) [(.int (σ.1 5 ((8 : Int32) + a1).toNatClampNeg)), (.int (a2 - (1 : Int32)))] [] dX9_field_64 ⟨⟨hX9_chord.1, hX9_chord.2.1, hX9_chord.2.2, by decide⟩, mX9_127, vX9_chord.1, vX9_chord.2⟩ (ci := 9) rfl rfl rfl rfl (Nat.le_of_ble_eq_true rfl) hr ?_
          exact x_ireturn2 (pc := 67) dX9_field_67 rfl h.1 h.2
        · replace h := h.2 c4
          refine x_aload_n (pc := 40) 0 dX9_field_40 rfl rfl ?_
          refine x_getR (pc := 41) dX9_field_41 fX9_23 rfl rfl ?_
          refine x_iload_n (pc := 44) 1 dX9_field_44 rfl rfl ?_
          obtain ⟨x9, s8, hr, h⟩ := h
          refine x_callS (pc := 45) [(.ref 5), (.int a1)] [] dX9_field_45 ⟨⟨hX9_whoAt.1, hX9_whoAt.2.1, hX9_whoAt.2.2, by decide⟩, mX9_124, sX9_whoAt⟩ rfl rfl (Nat.le_of_ble_eq_true rfl) hr ?_
          refine x_goto (pc := 48) 67 dX9_field_48 (by decide) ?_
          exact x_ireturn2 (pc := 67) dX9_field_67 rfl h.1 h.2
      · replace h := h.2 c3
        refine x_aload_n (pc := 23) 0 dX9_field_23 rfl rfl ?_
        refine x_getR (pc := 24) dX9_field_24 fX9_23 rfl rfl ?_
        refine x_bipush (pc := 27) (8 : Int32) dX9_field_27 (by decide +kernel) ?_
        refine x_iload_n (pc := 29) 1 dX9_field_29 rfl rfl ?_
        refine x_iadd (pc := 30) dX9_field_30 ?_
        obtain ⟨g10, h⟩ := h
        refine x_iaload (pc := 31) (n := 38) dX9_field_31 rfl g10 ?_
        refine x_goto (pc := 32) 67 dX9_field_32 (by decide) ?_
        exact x_ireturn2 (pc := 67) dX9_field_67 rfl h.1 h.2
    · replace h := h.2 c2
      refine x_iconst (pc := 17) (-1 : Int32) dX9_field_17 (by decide +kernel) ?_
      exact x_ireturn2 (pc := 18) dX9_field_18 rfl h.1 h.2
theorem dX9_singer_0 : decode cX9_singer 0 = .ok (.aload_n 0, 1) := by decide +kernel
theorem dX9_singer_1 : decode cX9_singer 1 = .ok (.iload_n 1, 1) := by decide +kernel
theorem dX9_singer_2 : decode cX9_singer 2 = .ok (.invokevirtual 130, 3) := by decide +kernel
theorem dX9_singer_5 : decode cX9_singer 5 = .ok (.ifCond .eq 12, 3) := by decide +kernel
theorem dX9_singer_8 : decode cX9_singer 8 = .ok (.iload_n 2, 1) := by decide +kernel
theorem dX9_singer_9 : decode cX9_singer 9 = .ok (.iconst 0, 1) := by decide +kernel
theorem dX9_singer_10 : decode cX9_singer 10 = .ok (.iconst 4, 1) := by decide +kernel
theorem dX9_singer_11 : decode cX9_singer 11 = .ok (.invokestatic 54, 3) := by decide +kernel
theorem dX9_singer_14 : decode cX9_singer 14 = .ok (.ifCond .ne 5, 3) := by decide +kernel
theorem dX9_singer_17 : decode cX9_singer 17 = .ok (.iconst (-1), 1) := by decide +kernel
theorem dX9_singer_18 : decode cX9_singer 18 = .ok (.ireturn, 1) := by decide +kernel
theorem dX9_singer_19 : decode cX9_singer 19 = .ok (.aload_n 0, 1) := by decide +kernel
theorem dX9_singer_20 : decode cX9_singer 20 = .ok (.getfield 23, 3) := by decide +kernel
theorem dX9_singer_23 : decode cX9_singer 23 = .ok (.bipush 13, 2) := by decide +kernel
theorem dX9_singer_25 : decode cX9_singer 25 = .ok (.iconst 5, 1) := by decide +kernel
theorem dX9_singer_26 : decode cX9_singer 26 = .ok (.iload_n 2, 1) := by decide +kernel
theorem dX9_singer_27 : decode cX9_singer 27 = .ok (.imul, 1) := by decide +kernel
theorem dX9_singer_28 : decode cX9_singer 28 = .ok (.iadd, 1) := by decide +kernel
theorem dX9_singer_29 : decode cX9_singer 29 = .ok (.iload_n 1, 1) := by decide +kernel
theorem dX9_singer_30 : decode cX9_singer 30 = .ok (.iadd, 1) := by decide +kernel
theorem dX9_singer_31 : decode cX9_singer 31 = .ok (.iaload, 1) := by decide +kernel
theorem dX9_singer_32 : decode cX9_singer 32 = .ok (.ireturn, 1) := by decide +kernel
def R_X9_singer (a1 : Int32) (a2 : Int32) (σ : kS) (x : Int32) (τ : kS) : Prop := Run SM jX9_singer [(.ref 0), (.int a1), (.int a2)] σ (some (.int x)) τ
set_option maxRecDepth 20000 in
theorem t_X9_singer {a1 : Int32} {a2 : Int32} {σ : kS} {x : Int32} {τ : kS}  (h : (¬ (iv a1 0 ((σ.1 5 3) - 1)) → x = (-1 : Int32) ∧ τ = σ) ∧ ((iv a1 0 ((σ.1 5 3) - 1)) → ((iv a2 (0 : Int32) (4 : Int32)) → vp_in (((13 : Int32) + ((5 : Int32) * a2)) + a1) 38 ∧ (x = (σ.1 5 (((13 : Int32) + ((5 : Int32) * a2)) + a1).toNatClampNeg) ∧ τ = σ)) ∧ (¬ (iv a2 (0 : Int32) (4 : Int32)) → x = (-1 : Int32) ∧ τ = σ))) : R_X9_singer a1 a2 σ x τ := by
  refine x_run [some (.ref 0), some (.int a1), some (.int a2)] (by decide +kernel) rfl (Nat.le_of_ble_eq_true rfl) ?_
  refine x_aload_n (pc := 0) 0 dX9_singer_0 rfl rfl ?_
  refine x_iload_n (pc := 1) 1 dX9_singer_1 rfl rfl ?_
  refine x_callV (pc := 2) [(.int a1)] [] dX9_singer_2 ⟨⟨hX9_isOne.1, hX9_isOne.2.1, hX9_isOne.2.2, by decide⟩, mX9_130, vX9_isOne.1, vX9_isOne.2⟩ (ci := 9) rfl rfl rfl rfl (Nat.le_of_ble_eq_true rfl) (i_X9_isOne) ?_
  refine x_bif_eq (pc := 5) 17 dX9_singer_5 (by decide) (fun c1 => ?_) (fun c1 => ?_)
  · replace h := h.1 c1
    refine x_iconst (pc := 17) (-1 : Int32) dX9_singer_17 (by decide +kernel) ?_
    exact x_ireturn2 (pc := 18) dX9_singer_18 rfl h.1 h.2
  · replace h := h.2 c1
    refine x_iload_n (pc := 8) 2 dX9_singer_8 rfl rfl ?_
    refine x_iconst (pc := 9) (0 : Int32) dX9_singer_9 (by decide +kernel) ?_
    refine x_iconst (pc := 10) (4 : Int32) dX9_singer_10 (by decide +kernel) ?_
    refine x_callS (pc := 11) [(.int a2), (.int (0 : Int32)), (.int (4 : Int32))] [] dX9_singer_11 ⟨⟨hX9_in.1, hX9_in.2.1, hX9_in.2.2, by decide⟩, mX9_54, sX9_in⟩ rfl rfl (Nat.le_of_ble_eq_true rfl) (i_X9_in) ?_
    refine x_bif_ne (pc := 14) 19 dX9_singer_14 (by decide) (fun c2 => ?_) (fun c2 => ?_)
    · replace h := h.1 c2
      refine x_aload_n (pc := 19) 0 dX9_singer_19 rfl rfl ?_
      refine x_getR (pc := 20) dX9_singer_20 fX9_23 rfl rfl ?_
      refine x_bipush (pc := 23) (13 : Int32) dX9_singer_23 (by decide +kernel) ?_
      refine x_iconst (pc := 25) (5 : Int32) dX9_singer_25 (by decide +kernel) ?_
      refine x_iload_n (pc := 26) 2 dX9_singer_26 rfl rfl ?_
      refine x_imul (pc := 27) dX9_singer_27 ?_
      refine x_iadd (pc := 28) dX9_singer_28 ?_
      refine x_iload_n (pc := 29) 1 dX9_singer_29 rfl rfl ?_
      refine x_iadd (pc := 30) dX9_singer_30 ?_
      obtain ⟨g3, h⟩ := h
      refine x_iaload (pc := 31) (n := 38) dX9_singer_31 rfl g3 ?_
      exact x_ireturn2 (pc := 32) dX9_singer_32 rfl h.1 h.2
    · replace h := h.2 c2
      refine x_iconst (pc := 17) (-1 : Int32) dX9_singer_17 (by decide +kernel) ?_
      exact x_ireturn2 (pc := 18) dX9_singer_18 rfl h.1 h.2
theorem dX9_as_0 : decode cX9_as 0 = .ok (.aload_n 0, 1) := by decide +kernel
theorem dX9_as_1 : decode cX9_as 1 = .ok (.iload_n 1, 1) := by decide +kernel
theorem dX9_as_2 : decode cX9_as 2 = .ok (.invokevirtual 130, 3) := by decide +kernel
theorem dX9_as_5 : decode cX9_as 5 = .ok (.ifCond .eq 12, 3) := by decide +kernel
theorem dX9_as_8 : decode cX9_as 8 = .ok (.iload_n 2, 1) := by decide +kernel
theorem dX9_as_9 : decode cX9_as 9 = .ok (.iconst 0, 1) := by decide +kernel
theorem dX9_as_10 : decode cX9_as 10 = .ok (.iconst 5, 1) := by decide +kernel
theorem dX9_as_11 : decode cX9_as 11 = .ok (.invokestatic 54, 3) := by decide +kernel
theorem dX9_as_14 : decode cX9_as 14 = .ok (.ifCond .ne 5, 3) := by decide +kernel
theorem dX9_as_17 : decode cX9_as 17 = .ok (.iconst (-1), 1) := by decide +kernel
theorem dX9_as_18 : decode cX9_as 18 = .ok (.ireturn, 1) := by decide +kernel
theorem dX9_as_19 : decode cX9_as 19 = .ok (.aload_n 0, 1) := by decide +kernel
theorem dX9_as_20 : decode cX9_as 20 = .ok (.getfield 23, 3) := by decide +kernel
theorem dX9_as_23 : decode cX9_as 23 = .ok (.bipush 13, 2) := by decide +kernel
theorem dX9_as_25 : decode cX9_as 25 = .ok (.iload_n 1, 1) := by decide +kernel
theorem dX9_as_26 : decode cX9_as 26 = .ok (.iadd, 1) := by decide +kernel
theorem dX9_as_27 : decode cX9_as 27 = .ok (.iaload, 1) := by decide +kernel
theorem dX9_as_28 : decode cX9_as 28 = .ok (.istore_n 3, 1) := by decide +kernel
theorem dX9_as_29 : decode cX9_as 29 = .ok (.iload_n 2, 1) := by decide +kernel
theorem dX9_as_30 : decode cX9_as 30 = .ok (.iconst 1, 1) := by decide +kernel
theorem dX9_as_31 : decode cX9_as 31 = .ok (.if_icmp .ne 16, 3) := by decide +kernel
theorem dX9_as_34 : decode cX9_as 34 = .ok (.iload_n 3, 1) := by decide +kernel
theorem dX9_as_35 : decode cX9_as 35 = .ok (.iconst 1, 1) := by decide +kernel
theorem dX9_as_36 : decode cX9_as 36 = .ok (.iconst 3, 1) := by decide +kernel
theorem dX9_as_37 : decode cX9_as 37 = .ok (.invokestatic 54, 3) := by decide +kernel
theorem dX9_as_40 : decode cX9_as 40 = .ok (.ifCond .eq 7, 3) := by decide +kernel
theorem dX9_as_43 : decode cX9_as 43 = .ok (.iconst 1, 1) := by decide +kernel
theorem dX9_as_44 : decode cX9_as 44 = .ok (.goto 4, 3) := by decide +kernel
theorem dX9_as_47 : decode cX9_as 47 = .ok (.iconst 0, 1) := by decide +kernel
theorem dX9_as_48 : decode cX9_as 48 = .ok (.istore 4, 2) := by decide +kernel
theorem dX9_as_50 : decode cX9_as 50 = .ok (.iload_n 2, 1) := by decide +kernel
theorem dX9_as_51 : decode cX9_as 51 = .ok (.iconst 4, 1) := by decide +kernel
theorem dX9_as_52 : decode cX9_as 52 = .ok (.if_icmp .ne 12, 3) := by decide +kernel
theorem dX9_as_55 : decode cX9_as 55 = .ok (.iload_n 3, 1) := by decide +kernel
theorem dX9_as_56 : decode cX9_as 56 = .ok (.iconst 5, 1) := by decide +kernel
theorem dX9_as_57 : decode cX9_as 57 = .ok (.if_icmp .ne 7, 3) := by decide +kernel
theorem dX9_as_60 : decode cX9_as 60 = .ok (.iconst 1, 1) := by decide +kernel
theorem dX9_as_61 : decode cX9_as 61 = .ok (.goto 4, 3) := by decide +kernel
theorem dX9_as_64 : decode cX9_as 64 = .ok (.iconst 0, 1) := by decide +kernel
theorem dX9_as_65 : decode cX9_as 65 = .ok (.istore 5, 2) := by decide +kernel
theorem dX9_as_67 : decode cX9_as 67 = .ok (.iload_n 2, 1) := by decide +kernel
theorem dX9_as_68 : decode cX9_as 68 = .ok (.ifCond .eq 18, 3) := by decide +kernel
theorem dX9_as_71 : decode cX9_as 71 = .ok (.iload_n 2, 1) := by decide +kernel
theorem dX9_as_72 : decode cX9_as 72 = .ok (.iload_n 3, 1) := by decide +kernel
theorem dX9_as_73 : decode cX9_as 73 = .ok (.if_icmp .eq 13, 3) := by decide +kernel
theorem dX9_as_76 : decode cX9_as 76 = .ok (.iload 4, 2) := by decide +kernel
theorem dX9_as_78 : decode cX9_as 78 = .ok (.ifCond .ne 8, 3) := by decide +kernel
theorem dX9_as_81 : decode cX9_as 81 = .ok (.iload 5, 2) := by decide +kernel
theorem dX9_as_83 : decode cX9_as 83 = .ok (.ifCond .eq 7, 3) := by decide +kernel
theorem dX9_as_86 : decode cX9_as 86 = .ok (.iload_n 1, 1) := by decide +kernel
theorem dX9_as_87 : decode cX9_as 87 = .ok (.goto 5, 3) := by decide +kernel
theorem dX9_as_90 : decode cX9_as 90 = .ok (.bipush (-12), 2) := by decide +kernel
theorem dX9_as_92 : decode cX9_as 92 = .ok (.ireturn, 1) := by decide +kernel
def R_X9_as (a1 : Int32) (a2 : Int32) (σ : kS) (x : Int32) (τ : kS) : Prop := Run SM jX9_as [(.ref 0), (.int a1), (.int a2)] σ (some (.int x)) τ
def E_X9_as_47 (l1 : Int32) (l2 : Int32) (l3 : Int32) (σ : kS) (x : Int32) (τ : kS) : Prop := Ex SM jX9_as 47 [none, some (.int l1), some (.int l2), some (.int l3), none, none] [] σ (some (.int x)) τ
def E_X9_as_65 (l1 : Int32) (l2 : Int32) (l3 : Int32) (l4 : Int32) (y0 : Int32) (σ : kS) (x : Int32) (τ : kS) : Prop := Ex SM jX9_as 65 [none, some (.int l1), some (.int l2), some (.int l3), some (.int l4), none] [(.int y0)] σ (some (.int x)) τ
set_option maxRecDepth 20000 in
theorem t_X9_as {a1 : Int32} {a2 : Int32} {σ : kS} {x : Int32} {τ : kS}  (h : (¬ (iv a1 0 ((σ.1 5 3) - 1)) → x = (-1 : Int32) ∧ τ = σ) ∧ ((iv a1 0 ((σ.1 5 3) - 1)) → ((iv a2 (0 : Int32) (5 : Int32)) → vp_in ((13 : Int32) + a1) 38 ∧ ((¬ a2 = (1 : Int32) → E_X9_as_47 a1 a2 (σ.1 5 ((13 : Int32) + a1).toNatClampNeg) σ x τ) ∧ (a2 = (1 : Int32) → (¬ (iv (σ.1 5 ((13 : Int32) + a1).toNatClampNeg) (1 : Int32) (3 : Int32)) → E_X9_as_47 a1 a2 (σ.1 5 ((13 : Int32) + a1).toNatClampNeg) σ x τ) ∧ ((iv (σ.1 5 ((13 : Int32) + a1).toNatClampNeg) (1 : Int32) (3 : Int32)) → (¬ a2 = (4 : Int32) → E_X9_as_65 a1 a2 (σ.1 5 ((13 : Int32) + a1).toNatClampNeg) (1 : Int32) (0 : Int32) σ x τ) ∧ (a2 = (4 : Int32) → (¬ (σ.1 5 ((13 : Int32) + a1).toNatClampNeg) = (5 : Int32) → E_X9_as_65 a1 a2 (σ.1 5 ((13 : Int32) + a1).toNatClampNeg) (1 : Int32) (0 : Int32) σ x τ) ∧ ((σ.1 5 ((13 : Int32) + a1).toNatClampNeg) = (5 : Int32) → E_X9_as_65 a1 a2 (σ.1 5 ((13 : Int32) + a1).toNatClampNeg) (1 : Int32) (1 : Int32) σ x τ)))))) ∧ (¬ (iv a2 (0 : Int32) (5 : Int32)) → x = (-1 : Int32) ∧ τ = σ))) : R_X9_as a1 a2 σ x τ := by
  refine x_run [some (.ref 0), some (.int a1), some (.int a2), none, none, none] (by decide +kernel) rfl (Nat.le_of_ble_eq_true rfl) ?_
  refine x_aload_n (pc := 0) 0 dX9_as_0 rfl rfl ?_
  refine x_iload_n (pc := 1) 1 dX9_as_1 rfl rfl ?_
  refine x_callV (pc := 2) [(.int a1)] [] dX9_as_2 ⟨⟨hX9_isOne.1, hX9_isOne.2.1, hX9_isOne.2.2, by decide⟩, mX9_130, vX9_isOne.1, vX9_isOne.2⟩ (ci := 9) rfl rfl rfl rfl (Nat.le_of_ble_eq_true rfl) (i_X9_isOne) ?_
  refine x_bif_eq (pc := 5) 17 dX9_as_5 (by decide) (fun c1 => ?_) (fun c1 => ?_)
  · replace h := h.1 c1
    refine x_iconst (pc := 17) (-1 : Int32) dX9_as_17 (by decide +kernel) ?_
    exact x_ireturn2 (pc := 18) dX9_as_18 rfl h.1 h.2
  · replace h := h.2 c1
    refine x_iload_n (pc := 8) 2 dX9_as_8 rfl rfl ?_
    refine x_iconst (pc := 9) (0 : Int32) dX9_as_9 (by decide +kernel) ?_
    refine x_iconst (pc := 10) (5 : Int32) dX9_as_10 (by decide +kernel) ?_
    refine x_callS (pc := 11) [(.int a2), (.int (0 : Int32)), (.int (5 : Int32))] [] dX9_as_11 ⟨⟨hX9_in.1, hX9_in.2.1, hX9_in.2.2, by decide⟩, mX9_54, sX9_in⟩ rfl rfl (Nat.le_of_ble_eq_true rfl) (i_X9_in) ?_
    refine x_bif_ne (pc := 14) 19 dX9_as_14 (by decide) (fun c2 => ?_) (fun c2 => ?_)
    · replace h := h.1 c2
      refine x_aload_n (pc := 19) 0 dX9_as_19 rfl rfl ?_
      refine x_getR (pc := 20) dX9_as_20 fX9_23 rfl rfl ?_
      refine x_bipush (pc := 23) (13 : Int32) dX9_as_23 (by decide +kernel) ?_
      refine x_iload_n (pc := 25) 1 dX9_as_25 rfl rfl ?_
      refine x_iadd (pc := 26) dX9_as_26 ?_
      obtain ⟨g3, h⟩ := h
      refine x_iaload (pc := 27) (n := 38) dX9_as_27 rfl g3 ?_
      refine x_istore_n (pc := 28) 3 dX9_as_28 rfl (by decide) rfl ?_
      refine x_iload_n (pc := 29) 2 dX9_as_29 rfl rfl ?_
      refine x_iconst (pc := 30) (1 : Int32) dX9_as_30 (by decide +kernel) ?_
      refine x_icmp_ne (pc := 31) 47 dX9_as_31 (by decide) (fun c4 => ?_) (fun c4 => ?_)
      · replace h := h.1 c4
        exact x_mask [false, true, true, true, false, false] h
      · replace h := h.2 c4
        refine x_iload_n (pc := 34) 3 dX9_as_34 rfl rfl ?_
        refine x_iconst (pc := 35) (1 : Int32) dX9_as_35 (by decide +kernel) ?_
        refine x_iconst (pc := 36) (3 : Int32) dX9_as_36 (by decide +kernel) ?_
        refine x_callS (pc := 37) [(.int (σ.1 5 ((13 : Int32) + a1).toNatClampNeg)), (.int (1 : Int32)), (.int (3 : Int32))] [] dX9_as_37 ⟨⟨hX9_in.1, hX9_in.2.1, hX9_in.2.2, by decide⟩, mX9_54, sX9_in⟩ rfl rfl (Nat.le_of_ble_eq_true rfl) (i_X9_in) ?_
        refine x_bif_eq (pc := 40) 47 dX9_as_40 (by decide) (fun c5 => ?_) (fun c5 => ?_)
        · replace h := h.1 c5
          exact x_mask [false, true, true, true, false, false] h
        · replace h := h.2 c5
          refine x_iconst (pc := 43) (1 : Int32) dX9_as_43 (by decide +kernel) ?_
          refine x_goto (pc := 44) 48 dX9_as_44 (by decide) ?_
          refine x_istore (pc := 48) dX9_as_48 (by decide) rfl ?_
          refine x_iload_n (pc := 50) 2 dX9_as_50 rfl rfl ?_
          refine x_iconst (pc := 51) (4 : Int32) dX9_as_51 (by decide +kernel) ?_
          refine x_icmp_ne (pc := 52) 64 dX9_as_52 (by decide) (fun c6 => ?_) (fun c6 => ?_)
          · replace h := h.1 c6
            refine x_iconst (pc := 64) (0 : Int32) dX9_as_64 (by decide +kernel) ?_
            exact x_mask [false, true, true, true, true, false] h
          · replace h := h.2 c6
            refine x_iload_n (pc := 55) 3 dX9_as_55 rfl rfl ?_
            refine x_iconst (pc := 56) (5 : Int32) dX9_as_56 (by decide +kernel) ?_
            refine x_icmp_ne (pc := 57) 64 dX9_as_57 (by decide) (fun c7 => ?_) (fun c7 => ?_)
            · replace h := h.1 c7
              refine x_iconst (pc := 64) (0 : Int32) dX9_as_64 (by decide +kernel) ?_
              exact x_mask [false, true, true, true, true, false] h
            · replace h := h.2 c7
              refine x_iconst (pc := 60) (1 : Int32) dX9_as_60 (by decide +kernel) ?_
              refine x_goto (pc := 61) 65 dX9_as_61 (by decide) ?_
              exact x_mask [false, true, true, true, true, false] h
    · replace h := h.2 c2
      refine x_iconst (pc := 17) (-1 : Int32) dX9_as_17 (by decide +kernel) ?_
      exact x_ireturn2 (pc := 18) dX9_as_18 rfl h.1 h.2
set_option maxRecDepth 20000 in
theorem t_X9_as_47 {l1 : Int32} {l2 : Int32} {l3 : Int32} {σ : kS} {x : Int32} {τ : kS}  (h : (¬ l2 = (4 : Int32) → E_X9_as_65 l1 l2 l3 (0 : Int32) (0 : Int32) σ x τ) ∧ (l2 = (4 : Int32) → (¬ l3 = (5 : Int32) → E_X9_as_65 l1 l2 l3 (0 : Int32) (0 : Int32) σ x τ) ∧ (l3 = (5 : Int32) → E_X9_as_65 l1 l2 l3 (0 : Int32) (1 : Int32) σ x τ))) : E_X9_as_47 l1 l2 l3 σ x τ := by
  unfold E_X9_as_47
  refine x_iconst (pc := 47) (0 : Int32) dX9_as_47 (by decide +kernel) ?_
  refine x_istore (pc := 48) dX9_as_48 (by decide) rfl ?_
  refine x_iload_n (pc := 50) 2 dX9_as_50 rfl rfl ?_
  refine x_iconst (pc := 51) (4 : Int32) dX9_as_51 (by decide +kernel) ?_
  refine x_icmp_ne (pc := 52) 64 dX9_as_52 (by decide) (fun c1 => ?_) (fun c1 => ?_)
  · replace h := h.1 c1
    refine x_iconst (pc := 64) (0 : Int32) dX9_as_64 (by decide +kernel) ?_
    exact h
  · replace h := h.2 c1
    refine x_iload_n (pc := 55) 3 dX9_as_55 rfl rfl ?_
    refine x_iconst (pc := 56) (5 : Int32) dX9_as_56 (by decide +kernel) ?_
    refine x_icmp_ne (pc := 57) 64 dX9_as_57 (by decide) (fun c2 => ?_) (fun c2 => ?_)
    · replace h := h.1 c2
      refine x_iconst (pc := 64) (0 : Int32) dX9_as_64 (by decide +kernel) ?_
      exact h
    · replace h := h.2 c2
      refine x_iconst (pc := 60) (1 : Int32) dX9_as_60 (by decide +kernel) ?_
      refine x_goto (pc := 61) 65 dX9_as_61 (by decide) ?_
      exact h
set_option maxRecDepth 20000 in
theorem t_X9_as_65 {l1 : Int32} {l2 : Int32} {l3 : Int32} {l4 : Int32} {y0 : Int32} {σ : kS} {x : Int32} {τ : kS}  (h : (l2 = 0 → x = l1 ∧ τ = σ) ∧ (¬ l2 = 0 → (l2 = l3 → x = l1 ∧ τ = σ) ∧ (¬ l2 = l3 → (¬ l4 = 0 → x = l1 ∧ τ = σ) ∧ (l4 = 0 → (y0 = 0 → x = (-12 : Int32) ∧ τ = σ) ∧ (¬ y0 = 0 → x = l1 ∧ τ = σ))))) : E_X9_as_65 l1 l2 l3 l4 y0 σ x τ := by
  unfold E_X9_as_65
  refine x_istore (pc := 65) dX9_as_65 (by decide) rfl ?_
  refine x_iload_n (pc := 67) 2 dX9_as_67 rfl rfl ?_
  refine x_if_eq (pc := 68) 86 dX9_as_68 (by decide) (fun c1 => ?_) (fun c1 => ?_)
  · replace h := h.1 c1
    refine x_iload_n (pc := 86) 1 dX9_as_86 rfl rfl ?_
    refine x_goto (pc := 87) 92 dX9_as_87 (by decide) ?_
    exact x_ireturn2 (pc := 92) dX9_as_92 rfl h.1 h.2
  · replace h := h.2 c1
    refine x_iload_n (pc := 71) 2 dX9_as_71 rfl rfl ?_
    refine x_iload_n (pc := 72) 3 dX9_as_72 rfl rfl ?_
    refine x_icmp_eq (pc := 73) 86 dX9_as_73 (by decide) (fun c2 => ?_) (fun c2 => ?_)
    · replace h := h.1 c2
      refine x_iload_n (pc := 86) 1 dX9_as_86 rfl rfl ?_
      refine x_goto (pc := 87) 92 dX9_as_87 (by decide) ?_
      exact x_ireturn2 (pc := 92) dX9_as_92 rfl h.1 h.2
    · replace h := h.2 c2
      refine x_iload (pc := 76) dX9_as_76 rfl ?_
      refine x_if_ne (pc := 78) 86 dX9_as_78 (by decide) (fun c3 => ?_) (fun c3 => ?_)
      · replace h := h.1 c3
        refine x_iload_n (pc := 86) 1 dX9_as_86 rfl rfl ?_
        refine x_goto (pc := 87) 92 dX9_as_87 (by decide) ?_
        exact x_ireturn2 (pc := 92) dX9_as_92 rfl h.1 h.2
      · replace h := h.2 c3
        refine x_iload (pc := 81) dX9_as_81 rfl ?_
        refine x_if_eq (pc := 83) 90 dX9_as_83 (by decide) (fun c4 => ?_) (fun c4 => ?_)
        · replace h := h.1 c4
          refine x_bipush (pc := 90) (-12 : Int32) dX9_as_90 (by decide +kernel) ?_
          exact x_ireturn2 (pc := 92) dX9_as_92 rfl h.1 h.2
        · replace h := h.2 c4
          refine x_iload_n (pc := 86) 1 dX9_as_86 rfl rfl ?_
          refine x_goto (pc := 87) 92 dX9_as_87 (by decide) ?_
          exact x_ireturn2 (pc := 92) dX9_as_92 rfl h.1 h.2
theorem dX9_lowest_0 : decode cX9_lowest 0 = .ok (.iconst 0, 1) := by decide +kernel
theorem dX9_lowest_1 : decode cX9_lowest 1 = .ok (.istore_n 1, 1) := by decide +kernel
theorem dX9_lowest_2 : decode cX9_lowest 2 = .ok (.iload_n 0, 1) := by decide +kernel
theorem dX9_lowest_3 : decode cX9_lowest 3 = .ok (.iload_n 1, 1) := by decide +kernel
theorem dX9_lowest_4 : decode cX9_lowest 4 = .ok (.invokestatic 133, 3) := by decide +kernel
theorem dX9_lowest_7 : decode cX9_lowest 7 = .ok (.ifCond .ne 9, 3) := by decide +kernel
theorem dX9_lowest_10 : decode cX9_lowest 10 = .ok (.iinc 1 1, 3) := by decide +kernel
theorem dX9_lowest_13 : decode cX9_lowest 13 = .ok (.goto (-11), 3) := by decide +kernel
theorem dX9_lowest_16 : decode cX9_lowest 16 = .ok (.iload_n 1, 1) := by decide +kernel
theorem dX9_lowest_17 : decode cX9_lowest 17 = .ok (.ireturn, 1) := by decide +kernel
def R_X9_lowest (a0 : Int32) (σ : kS) (x : Int32) (τ : kS) : Prop := Run SM jX9_lowest [(.int a0)] σ (some (.int x)) τ
def E_X9_lowest_2 (l0 : Int32) (l1 : Int32) (σ : kS) (x : Int32) (τ : kS) : Prop := Ex SM jX9_lowest 2 [some (.int l0), some (.int l1)] [] σ (some (.int x)) τ
set_option maxRecDepth 20000 in
theorem t_X9_lowest {a0 : Int32} {σ : kS} {x : Int32} {τ : kS}  (h : E_X9_lowest_2 a0 (0 : Int32) σ x τ) : R_X9_lowest a0 σ x τ := by
  refine x_run [some (.int a0), none] (by decide +kernel) rfl (Nat.le_of_ble_eq_true rfl) ?_
  refine x_iconst (pc := 0) (0 : Int32) dX9_lowest_0 (by decide +kernel) ?_
  refine x_istore_n (pc := 1) 1 dX9_lowest_1 rfl (by decide) rfl ?_
  exact h
set_option maxRecDepth 20000 in
theorem t_X9_lowest_2 {l0 : Int32} {l1 : Int32} {σ : kS} {x : Int32} {τ : kS}  (h : ((hs l0 l1) → x = l1 ∧ τ = σ) ∧ (¬ (hs l0 l1) → E_X9_lowest_2 l0 (l1 + (1 : Int32)) σ x τ)) : E_X9_lowest_2 l0 l1 σ x τ := by
  unfold E_X9_lowest_2
  refine x_iload_n (pc := 2) 0 dX9_lowest_2 rfl rfl ?_
  refine x_iload_n (pc := 3) 1 dX9_lowest_3 rfl rfl ?_
  refine x_callS (pc := 4) [(.int l0), (.int l1)] [] dX9_lowest_4 ⟨⟨hX9_has.1, hX9_has.2.1, hX9_has.2.2, by decide⟩, mX9_133, sX9_has⟩ rfl rfl (Nat.le_of_ble_eq_true rfl) (i_X9_has) ?_
  refine x_bif_ne (pc := 7) 16 dX9_lowest_7 (by decide) (fun c1 => ?_) (fun c1 => ?_)
  · replace h := h.1 c1
    refine x_iload_n (pc := 16) 1 dX9_lowest_16 rfl rfl ?_
    exact x_ireturn2 (pc := 17) dX9_lowest_17 rfl h.1 h.2
  · replace h := h.2 c1
    refine x_iinc (pc := 10) (1 : Int32) dX9_lowest_10 (by decide) rfl rfl (by decide +kernel) ?_
    refine x_goto (pc := 13) 2 dX9_lowest_13 (by decide) ?_
    exact h
theorem dX9_highest_0 : decode cX9_highest 0 = .ok (.bipush 11, 2) := by decide +kernel
theorem dX9_highest_2 : decode cX9_highest 2 = .ok (.istore_n 1, 1) := by decide +kernel
theorem dX9_highest_3 : decode cX9_highest 3 = .ok (.iload_n 0, 1) := by decide +kernel
theorem dX9_highest_4 : decode cX9_highest 4 = .ok (.iload_n 1, 1) := by decide +kernel
theorem dX9_highest_5 : decode cX9_highest 5 = .ok (.invokestatic 133, 3) := by decide +kernel
theorem dX9_highest_8 : decode cX9_highest 8 = .ok (.ifCond .ne 9, 3) := by decide +kernel
theorem dX9_highest_11 : decode cX9_highest 11 = .ok (.iinc 1 (-1), 3) := by decide +kernel
theorem dX9_highest_14 : decode cX9_highest 14 = .ok (.goto (-11), 3) := by decide +kernel
theorem dX9_highest_17 : decode cX9_highest 17 = .ok (.iload_n 1, 1) := by decide +kernel
theorem dX9_highest_18 : decode cX9_highest 18 = .ok (.ireturn, 1) := by decide +kernel
def R_X9_highest (a0 : Int32) (σ : kS) (x : Int32) (τ : kS) : Prop := Run SM jX9_highest [(.int a0)] σ (some (.int x)) τ
def E_X9_highest_3 (l0 : Int32) (l1 : Int32) (σ : kS) (x : Int32) (τ : kS) : Prop := Ex SM jX9_highest 3 [some (.int l0), some (.int l1)] [] σ (some (.int x)) τ
set_option maxRecDepth 20000 in
theorem t_X9_highest {a0 : Int32} {σ : kS} {x : Int32} {τ : kS}  (h : E_X9_highest_3 a0 (11 : Int32) σ x τ) : R_X9_highest a0 σ x τ := by
  refine x_run [some (.int a0), none] (by decide +kernel) rfl (Nat.le_of_ble_eq_true rfl) ?_
  refine x_bipush (pc := 0) (11 : Int32) dX9_highest_0 (by decide +kernel) ?_
  refine x_istore_n (pc := 2) 1 dX9_highest_2 rfl (by decide) rfl ?_
  exact h
set_option maxRecDepth 20000 in
theorem t_X9_highest_3 {l0 : Int32} {l1 : Int32} {σ : kS} {x : Int32} {τ : kS}  (h : ((hs l0 l1) → x = l1 ∧ τ = σ) ∧ (¬ (hs l0 l1) → E_X9_highest_3 l0 (l1 + (-1 : Int32)) σ x τ)) : E_X9_highest_3 l0 l1 σ x τ := by
  unfold E_X9_highest_3
  refine x_iload_n (pc := 3) 0 dX9_highest_3 rfl rfl ?_
  refine x_iload_n (pc := 4) 1 dX9_highest_4 rfl rfl ?_
  refine x_callS (pc := 5) [(.int l0), (.int l1)] [] dX9_highest_5 ⟨⟨hX9_has.1, hX9_has.2.1, hX9_has.2.2, by decide⟩, mX9_133, sX9_has⟩ rfl rfl (Nat.le_of_ble_eq_true rfl) (i_X9_has) ?_
  refine x_bif_ne (pc := 8) 17 dX9_highest_8 (by decide) (fun c1 => ?_) (fun c1 => ?_)
  · replace h := h.1 c1
    refine x_iload_n (pc := 17) 1 dX9_highest_17 rfl rfl ?_
    exact x_ireturn2 (pc := 18) dX9_highest_18 rfl h.1 h.2
  · replace h := h.2 c1
    refine x_iinc (pc := 11) (-1 : Int32) dX9_highest_11 (by decide) rfl rfl (by decide +kernel) ?_
    refine x_goto (pc := 14) 3 dX9_highest_14 (by decide) ?_
    exact h
theorem dX9_singsOf_0 : decode cX9_singsOf 0 = .ok (.iload_n 2, 1) := by decide +kernel
theorem dX9_singsOf_1 : decode cX9_singsOf 1 = .ok (.iconst 3, 1) := by decide +kernel
theorem dX9_singsOf_2 : decode cX9_singsOf 2 = .ok (.iadd, 1) := by decide +kernel
theorem dX9_singsOf_3 : decode cX9_singsOf 3 = .ok (.bipush 12, 2) := by decide +kernel
theorem dX9_singsOf_5 : decode cX9_singsOf 5 = .ok (.irem, 1) := by decide +kernel
theorem dX9_singsOf_6 : decode cX9_singsOf 6 = .ok (.istore_n 3, 1) := by decide +kernel
theorem dX9_singsOf_7 : decode cX9_singsOf 7 = .ok (.iload_n 2, 1) := by decide +kernel
theorem dX9_singsOf_8 : decode cX9_singsOf 8 = .ok (.iconst 4, 1) := by decide +kernel
theorem dX9_singsOf_9 : decode cX9_singsOf 9 = .ok (.iadd, 1) := by decide +kernel
theorem dX9_singsOf_10 : decode cX9_singsOf 10 = .ok (.bipush 12, 2) := by decide +kernel
theorem dX9_singsOf_12 : decode cX9_singsOf 12 = .ok (.irem, 1) := by decide +kernel
theorem dX9_singsOf_13 : decode cX9_singsOf 13 = .ok (.istore 4, 2) := by decide +kernel
theorem dX9_singsOf_15 : decode cX9_singsOf 15 = .ok (.iload_n 2, 1) := by decide +kernel
theorem dX9_singsOf_16 : decode cX9_singsOf 16 = .ok (.bipush 7, 2) := by decide +kernel
theorem dX9_singsOf_18 : decode cX9_singsOf 18 = .ok (.iadd, 1) := by decide +kernel
theorem dX9_singsOf_19 : decode cX9_singsOf 19 = .ok (.bipush 12, 2) := by decide +kernel
theorem dX9_singsOf_21 : decode cX9_singsOf 21 = .ok (.irem, 1) := by decide +kernel
theorem dX9_singsOf_22 : decode cX9_singsOf 22 = .ok (.istore 5, 2) := by decide +kernel
theorem dX9_singsOf_24 : decode cX9_singsOf 24 = .ok (.iload_n 0, 1) := by decide +kernel
theorem dX9_singsOf_25 : decode cX9_singsOf 25 = .ok (.tableswitch 114 1 4 #[31, 45, 59, 99], 31) := by decide +kernel
theorem dX9_singsOf_56 : decode cX9_singsOf 56 = .ok (.iload_n 1, 1) := by decide +kernel
theorem dX9_singsOf_57 : decode cX9_singsOf 57 = .ok (.ifCond .ne 8, 3) := by decide +kernel
theorem dX9_singsOf_60 : decode cX9_singsOf 60 = .ok (.bipush 12, 2) := by decide +kernel
theorem dX9_singsOf_62 : decode cX9_singsOf 62 = .ok (.goto 7, 3) := by decide +kernel
theorem dX9_singsOf_65 : decode cX9_singsOf 65 = .ok (.iload_n 1, 1) := by decide +kernel
theorem dX9_singsOf_66 : decode cX9_singsOf 66 = .ok (.invokestatic 137, 3) := by decide +kernel
theorem dX9_singsOf_69 : decode cX9_singsOf 69 = .ok (.ireturn, 1) := by decide +kernel
theorem dX9_singsOf_70 : decode cX9_singsOf 70 = .ok (.iload_n 1, 1) := by decide +kernel
theorem dX9_singsOf_71 : decode cX9_singsOf 71 = .ok (.ifCond .ne 8, 3) := by decide +kernel
theorem dX9_singsOf_74 : decode cX9_singsOf 74 = .ok (.bipush 12, 2) := by decide +kernel
theorem dX9_singsOf_76 : decode cX9_singsOf 76 = .ok (.goto 7, 3) := by decide +kernel
theorem dX9_singsOf_79 : decode cX9_singsOf 79 = .ok (.iload_n 1, 1) := by decide +kernel
theorem dX9_singsOf_80 : decode cX9_singsOf 80 = .ok (.invokestatic 140, 3) := by decide +kernel
theorem dX9_singsOf_83 : decode cX9_singsOf 83 = .ok (.ireturn, 1) := by decide +kernel
theorem dX9_singsOf_84 : decode cX9_singsOf 84 = .ok (.iload_n 1, 1) := by decide +kernel
theorem dX9_singsOf_85 : decode cX9_singsOf 85 = .ok (.iload_n 3, 1) := by decide +kernel
theorem dX9_singsOf_86 : decode cX9_singsOf 86 = .ok (.invokestatic 133, 3) := by decide +kernel
theorem dX9_singsOf_89 : decode cX9_singsOf 89 = .ok (.ifCond .eq 7, 3) := by decide +kernel
theorem dX9_singsOf_92 : decode cX9_singsOf 92 = .ok (.iload_n 3, 1) := by decide +kernel
theorem dX9_singsOf_93 : decode cX9_singsOf 93 = .ok (.goto 30, 3) := by decide +kernel
theorem dX9_singsOf_96 : decode cX9_singsOf 96 = .ok (.iload_n 1, 1) := by decide +kernel
theorem dX9_singsOf_97 : decode cX9_singsOf 97 = .ok (.iload 4, 2) := by decide +kernel
theorem dX9_singsOf_99 : decode cX9_singsOf 99 = .ok (.invokestatic 133, 3) := by decide +kernel
theorem dX9_singsOf_102 : decode cX9_singsOf 102 = .ok (.ifCond .eq 8, 3) := by decide +kernel
theorem dX9_singsOf_105 : decode cX9_singsOf 105 = .ok (.iload 4, 2) := by decide +kernel
theorem dX9_singsOf_107 : decode cX9_singsOf 107 = .ok (.goto 16, 3) := by decide +kernel
theorem dX9_singsOf_110 : decode cX9_singsOf 110 = .ok (.iload_n 1, 1) := by decide +kernel
theorem dX9_singsOf_111 : decode cX9_singsOf 111 = .ok (.ifCond .ne 8, 3) := by decide +kernel
theorem dX9_singsOf_114 : decode cX9_singsOf 114 = .ok (.bipush 12, 2) := by decide +kernel
theorem dX9_singsOf_116 : decode cX9_singsOf 116 = .ok (.goto 7, 3) := by decide +kernel
theorem dX9_singsOf_119 : decode cX9_singsOf 119 = .ok (.iload_n 1, 1) := by decide +kernel
theorem dX9_singsOf_120 : decode cX9_singsOf 120 = .ok (.invokestatic 137, 3) := by decide +kernel
theorem dX9_singsOf_123 : decode cX9_singsOf 123 = .ok (.ireturn, 1) := by decide +kernel
theorem dX9_singsOf_124 : decode cX9_singsOf 124 = .ok (.iload_n 1, 1) := by decide +kernel
theorem dX9_singsOf_125 : decode cX9_singsOf 125 = .ok (.iload_n 2, 1) := by decide +kernel
theorem dX9_singsOf_126 : decode cX9_singsOf 126 = .ok (.invokestatic 133, 3) := by decide +kernel
theorem dX9_singsOf_129 : decode cX9_singsOf 129 = .ok (.ifCond .eq 7, 3) := by decide +kernel
theorem dX9_singsOf_132 : decode cX9_singsOf 132 = .ok (.iload_n 2, 1) := by decide +kernel
theorem dX9_singsOf_133 : decode cX9_singsOf 133 = .ok (.goto 5, 3) := by decide +kernel
theorem dX9_singsOf_136 : decode cX9_singsOf 136 = .ok (.bipush 12, 2) := by decide +kernel
theorem dX9_singsOf_138 : decode cX9_singsOf 138 = .ok (.ireturn, 1) := by decide +kernel
theorem dX9_singsOf_139 : decode cX9_singsOf 139 = .ok (.iload_n 1, 1) := by decide +kernel
theorem dX9_singsOf_140 : decode cX9_singsOf 140 = .ok (.iload_n 2, 1) := by decide +kernel
theorem dX9_singsOf_141 : decode cX9_singsOf 141 = .ok (.invokestatic 133, 3) := by decide +kernel
theorem dX9_singsOf_144 : decode cX9_singsOf 144 = .ok (.ifCond .eq 7, 3) := by decide +kernel
theorem dX9_singsOf_147 : decode cX9_singsOf 147 = .ok (.iload_n 2, 1) := by decide +kernel
theorem dX9_singsOf_148 : decode cX9_singsOf 148 = .ok (.goto 19, 3) := by decide +kernel
theorem dX9_singsOf_151 : decode cX9_singsOf 151 = .ok (.iload_n 1, 1) := by decide +kernel
theorem dX9_singsOf_152 : decode cX9_singsOf 152 = .ok (.iload 5, 2) := by decide +kernel
theorem dX9_singsOf_154 : decode cX9_singsOf 154 = .ok (.invokestatic 133, 3) := by decide +kernel
theorem dX9_singsOf_157 : decode cX9_singsOf 157 = .ok (.ifCond .eq 8, 3) := by decide +kernel
theorem dX9_singsOf_160 : decode cX9_singsOf 160 = .ok (.iload 5, 2) := by decide +kernel
theorem dX9_singsOf_162 : decode cX9_singsOf 162 = .ok (.goto 5, 3) := by decide +kernel
theorem dX9_singsOf_165 : decode cX9_singsOf 165 = .ok (.bipush 12, 2) := by decide +kernel
theorem dX9_singsOf_167 : decode cX9_singsOf 167 = .ok (.ireturn, 1) := by decide +kernel
def R_X9_singsOf (a0 : Int32) (a1 : Int32) (a2 : Int32) (σ : kS) (x : Int32) (τ : kS) : Prop := Run SM jX9_singsOf [(.int a0), (.int a1), (.int a2)] σ (some (.int x)) τ
set_option maxRecDepth 20000 in
theorem t_X9_singsOf {a0 : Int32} {a1 : Int32} {a2 : Int32} {σ : kS} {x : Int32} {τ : kS}  (h : (a0.toInt = 1 → (¬ a1 = 0 → ∃ (x4 : Int32) (s3 : kS), R_X9_lowest a1 σ x4 s3 ∧ (x = x4 ∧ τ = s3)) ∧ (a1 = 0 → x = (12 : Int32) ∧ τ = σ)) ∧ (a0.toInt = 2 → (¬ a1 = 0 → ∃ (x7 : Int32) (s6 : kS), R_X9_highest a1 σ x7 s6 ∧ (x = x7 ∧ τ = s6)) ∧ (a1 = 0 → x = (12 : Int32) ∧ τ = σ)) ∧ (a0.toInt = 3 → (¬ (hs a1 ((a2 + (3 : Int32)) - (a2 + (3 : Int32)) / (12 : Int32) * (12 : Int32))) → (¬ (hs a1 ((a2 + (4 : Int32)) - (a2 + (4 : Int32)) / (12 : Int32) * (12 : Int32))) → (¬ a1 = 0 → ∃ (x12 : Int32) (s11 : kS), R_X9_lowest a1 σ x12 s11 ∧ (x = x12 ∧ τ = s11)) ∧ (a1 = 0 → x = (12 : Int32) ∧ τ = σ)) ∧ ((hs a1 ((a2 + (4 : Int32)) - (a2 + (4 : Int32)) / (12 : Int32) * (12 : Int32))) → x = ((a2 + (4 : Int32)) - (a2 + (4 : Int32)) / (12 : Int32) * (12 : Int32)) ∧ τ = σ)) ∧ ((hs a1 ((a2 + (3 : Int32)) - (a2 + (3 : Int32)) / (12 : Int32) * (12 : Int32))) → x = ((a2 + (3 : Int32)) - (a2 + (3 : Int32)) / (12 : Int32) * (12 : Int32)) ∧ τ = σ)) ∧ (a0.toInt = 4 → (¬ (hs a1 a2) → x = (12 : Int32) ∧ τ = σ) ∧ ((hs a1 a2) → x = a2 ∧ τ = σ)) ∧ ((a0.toInt < 1 ∨ 4 < a0.toInt) → (¬ (hs a1 a2) → (¬ (hs a1 ((a2 + (7 : Int32)) - (a2 + (7 : Int32)) / (12 : Int32) * (12 : Int32))) → x = (12 : Int32) ∧ τ = σ) ∧ ((hs a1 ((a2 + (7 : Int32)) - (a2 + (7 : Int32)) / (12 : Int32) * (12 : Int32))) → x = ((a2 + (7 : Int32)) - (a2 + (7 : Int32)) / (12 : Int32) * (12 : Int32)) ∧ τ = σ)) ∧ ((hs a1 a2) → x = a2 ∧ τ = σ))) : R_X9_singsOf a0 a1 a2 σ x τ := by
  refine x_run [some (.int a0), some (.int a1), some (.int a2), none, none, none] (by decide +kernel) rfl (Nat.le_of_ble_eq_true rfl) ?_
  refine x_iload_n (pc := 0) 2 dX9_singsOf_0 rfl rfl ?_
  refine x_iconst (pc := 1) (3 : Int32) dX9_singsOf_1 (by decide +kernel) ?_
  refine x_iadd (pc := 2) dX9_singsOf_2 ?_
  refine x_bipush (pc := 3) (12 : Int32) dX9_singsOf_3 (by decide +kernel) ?_
  refine x_irem (pc := 5) dX9_singsOf_5 (by decide) ?_
  refine x_istore_n (pc := 6) 3 dX9_singsOf_6 rfl (by decide) rfl ?_
  refine x_iload_n (pc := 7) 2 dX9_singsOf_7 rfl rfl ?_
  refine x_iconst (pc := 8) (4 : Int32) dX9_singsOf_8 (by decide +kernel) ?_
  refine x_iadd (pc := 9) dX9_singsOf_9 ?_
  refine x_bipush (pc := 10) (12 : Int32) dX9_singsOf_10 (by decide +kernel) ?_
  refine x_irem (pc := 12) dX9_singsOf_12 (by decide) ?_
  refine x_istore (pc := 13) dX9_singsOf_13 (by decide) rfl ?_
  refine x_iload_n (pc := 15) 2 dX9_singsOf_15 rfl rfl ?_
  refine x_bipush (pc := 16) (7 : Int32) dX9_singsOf_16 (by decide +kernel) ?_
  refine x_iadd (pc := 18) dX9_singsOf_18 ?_
  refine x_bipush (pc := 19) (12 : Int32) dX9_singsOf_19 (by decide +kernel) ?_
  refine x_irem (pc := 21) dX9_singsOf_21 (by decide) ?_
  refine x_istore (pc := 22) dX9_singsOf_22 (by decide) rfl ?_
  refine x_iload_n (pc := 24) 0 dX9_singsOf_24 rfl rfl ?_
  refine x_table (pc := 25) 139 dX9_singsOf_25 (by decide +kernel) (by decide +kernel) (by decide) (k_tb_cons (fun c1 => ?_) (k_tb_cons (fun c1 => ?_) (k_tb_cons (fun c1 => ?_) (k_tb_cons (fun c1 => ?_) k_tb_nil)))) (fun c1 => ?_)
  · replace h := h.1 c1
    refine x_iload_n (pc := 56) 1 dX9_singsOf_56 rfl rfl ?_
    refine x_if_ne (pc := 57) 65 dX9_singsOf_57 (by decide) (fun c2 => ?_) (fun c2 => ?_)
    · replace h := h.1 c2
      refine x_iload_n (pc := 65) 1 dX9_singsOf_65 rfl rfl ?_
      obtain ⟨x4, s3, hr, h⟩ := h
      refine x_callS (pc := 66) [(.int a1)] [] dX9_singsOf_66 ⟨⟨hX9_lowest.1, hX9_lowest.2.1, hX9_lowest.2.2, by decide⟩, mX9_137, sX9_lowest⟩ rfl rfl (Nat.le_of_ble_eq_true rfl) hr ?_
      exact x_ireturn2 (pc := 69) dX9_singsOf_69 rfl h.1 h.2
    · replace h := h.2 c2
      refine x_bipush (pc := 60) (12 : Int32) dX9_singsOf_60 (by decide +kernel) ?_
      refine x_goto (pc := 62) 69 dX9_singsOf_62 (by decide) ?_
      exact x_ireturn2 (pc := 69) dX9_singsOf_69 rfl h.1 h.2
  · replace h := h.2.1 c1
    refine x_iload_n (pc := 70) 1 dX9_singsOf_70 rfl rfl ?_
    refine x_if_ne (pc := 71) 79 dX9_singsOf_71 (by decide) (fun c5 => ?_) (fun c5 => ?_)
    · replace h := h.1 c5
      refine x_iload_n (pc := 79) 1 dX9_singsOf_79 rfl rfl ?_
      obtain ⟨x7, s6, hr, h⟩ := h
      refine x_callS (pc := 80) [(.int a1)] [] dX9_singsOf_80 ⟨⟨hX9_highest.1, hX9_highest.2.1, hX9_highest.2.2, by decide⟩, mX9_140, sX9_highest⟩ rfl rfl (Nat.le_of_ble_eq_true rfl) hr ?_
      exact x_ireturn2 (pc := 83) dX9_singsOf_83 rfl h.1 h.2
    · replace h := h.2 c5
      refine x_bipush (pc := 74) (12 : Int32) dX9_singsOf_74 (by decide +kernel) ?_
      refine x_goto (pc := 76) 83 dX9_singsOf_76 (by decide) ?_
      exact x_ireturn2 (pc := 83) dX9_singsOf_83 rfl h.1 h.2
  · replace h := h.2.2.1 c1
    refine x_iload_n (pc := 84) 1 dX9_singsOf_84 rfl rfl ?_
    refine x_iload_n (pc := 85) 3 dX9_singsOf_85 rfl rfl ?_
    refine x_callS (pc := 86) [(.int a1), (.int ((a2 + (3 : Int32)) - (a2 + (3 : Int32)) / (12 : Int32) * (12 : Int32)))] [] dX9_singsOf_86 ⟨⟨hX9_has.1, hX9_has.2.1, hX9_has.2.2, by decide⟩, mX9_133, sX9_has⟩ rfl rfl (Nat.le_of_ble_eq_true rfl) (i_X9_has) ?_
    refine x_bif_eq (pc := 89) 96 dX9_singsOf_89 (by decide) (fun c8 => ?_) (fun c8 => ?_)
    · replace h := h.1 c8
      refine x_iload_n (pc := 96) 1 dX9_singsOf_96 rfl rfl ?_
      refine x_iload (pc := 97) dX9_singsOf_97 rfl ?_
      refine x_callS (pc := 99) [(.int a1), (.int ((a2 + (4 : Int32)) - (a2 + (4 : Int32)) / (12 : Int32) * (12 : Int32)))] [] dX9_singsOf_99 ⟨⟨hX9_has.1, hX9_has.2.1, hX9_has.2.2, by decide⟩, mX9_133, sX9_has⟩ rfl rfl (Nat.le_of_ble_eq_true rfl) (i_X9_has) ?_
      refine x_bif_eq (pc := 102) 110 dX9_singsOf_102 (by decide) (fun c9 => ?_) (fun c9 => ?_)
      · replace h := h.1 c9
        refine x_iload_n (pc := 110) 1 dX9_singsOf_110 rfl rfl ?_
        refine x_if_ne (pc := 111) 119 dX9_singsOf_111 (by decide) (fun c10 => ?_) (fun c10 => ?_)
        · replace h := h.1 c10
          refine x_iload_n (pc := 119) 1 dX9_singsOf_119 rfl rfl ?_
          obtain ⟨x12, s11, hr, h⟩ := h
          refine x_callS (pc := 120) [(.int a1)] [] dX9_singsOf_120 ⟨⟨hX9_lowest.1, hX9_lowest.2.1, hX9_lowest.2.2, by decide⟩, mX9_137, sX9_lowest⟩ rfl rfl (Nat.le_of_ble_eq_true rfl) hr ?_
          exact x_ireturn2 (pc := 123) dX9_singsOf_123 rfl h.1 h.2
        · replace h := h.2 c10
          refine x_bipush (pc := 114) (12 : Int32) dX9_singsOf_114 (by decide +kernel) ?_
          refine x_goto (pc := 116) 123 dX9_singsOf_116 (by decide) ?_
          exact x_ireturn2 (pc := 123) dX9_singsOf_123 rfl h.1 h.2
      · replace h := h.2 c9
        refine x_iload (pc := 105) dX9_singsOf_105 rfl ?_
        refine x_goto (pc := 107) 123 dX9_singsOf_107 (by decide) ?_
        exact x_ireturn2 (pc := 123) dX9_singsOf_123 rfl h.1 h.2
    · replace h := h.2 c8
      refine x_iload_n (pc := 92) 3 dX9_singsOf_92 rfl rfl ?_
      refine x_goto (pc := 93) 123 dX9_singsOf_93 (by decide) ?_
      exact x_ireturn2 (pc := 123) dX9_singsOf_123 rfl h.1 h.2
  · replace h := h.2.2.2.1 c1
    refine x_iload_n (pc := 124) 1 dX9_singsOf_124 rfl rfl ?_
    refine x_iload_n (pc := 125) 2 dX9_singsOf_125 rfl rfl ?_
    refine x_callS (pc := 126) [(.int a1), (.int a2)] [] dX9_singsOf_126 ⟨⟨hX9_has.1, hX9_has.2.1, hX9_has.2.2, by decide⟩, mX9_133, sX9_has⟩ rfl rfl (Nat.le_of_ble_eq_true rfl) (i_X9_has) ?_
    refine x_bif_eq (pc := 129) 136 dX9_singsOf_129 (by decide) (fun c13 => ?_) (fun c13 => ?_)
    · replace h := h.1 c13
      refine x_bipush (pc := 136) (12 : Int32) dX9_singsOf_136 (by decide +kernel) ?_
      exact x_ireturn2 (pc := 138) dX9_singsOf_138 rfl h.1 h.2
    · replace h := h.2 c13
      refine x_iload_n (pc := 132) 2 dX9_singsOf_132 rfl rfl ?_
      refine x_goto (pc := 133) 138 dX9_singsOf_133 (by decide) ?_
      exact x_ireturn2 (pc := 138) dX9_singsOf_138 rfl h.1 h.2
  · replace h := h.2.2.2.2 c1
    refine x_iload_n (pc := 139) 1 dX9_singsOf_139 rfl rfl ?_
    refine x_iload_n (pc := 140) 2 dX9_singsOf_140 rfl rfl ?_
    refine x_callS (pc := 141) [(.int a1), (.int a2)] [] dX9_singsOf_141 ⟨⟨hX9_has.1, hX9_has.2.1, hX9_has.2.2, by decide⟩, mX9_133, sX9_has⟩ rfl rfl (Nat.le_of_ble_eq_true rfl) (i_X9_has) ?_
    refine x_bif_eq (pc := 144) 151 dX9_singsOf_144 (by decide) (fun c14 => ?_) (fun c14 => ?_)
    · replace h := h.1 c14
      refine x_iload_n (pc := 151) 1 dX9_singsOf_151 rfl rfl ?_
      refine x_iload (pc := 152) dX9_singsOf_152 rfl ?_
      refine x_callS (pc := 154) [(.int a1), (.int ((a2 + (7 : Int32)) - (a2 + (7 : Int32)) / (12 : Int32) * (12 : Int32)))] [] dX9_singsOf_154 ⟨⟨hX9_has.1, hX9_has.2.1, hX9_has.2.2, by decide⟩, mX9_133, sX9_has⟩ rfl rfl (Nat.le_of_ble_eq_true rfl) (i_X9_has) ?_
      refine x_bif_eq (pc := 157) 165 dX9_singsOf_157 (by decide) (fun c15 => ?_) (fun c15 => ?_)
      · replace h := h.1 c15
        refine x_bipush (pc := 165) (12 : Int32) dX9_singsOf_165 (by decide +kernel) ?_
        exact x_ireturn2 (pc := 167) dX9_singsOf_167 rfl h.1 h.2
      · replace h := h.2 c15
        refine x_iload (pc := 160) dX9_singsOf_160 rfl ?_
        refine x_goto (pc := 162) 167 dX9_singsOf_162 (by decide) ?_
        exact x_ireturn2 (pc := 167) dX9_singsOf_167 rfl h.1 h.2
    · replace h := h.2 c14
      refine x_iload_n (pc := 147) 2 dX9_singsOf_147 rfl rfl ?_
      refine x_goto (pc := 148) 167 dX9_singsOf_148 (by decide) ?_
      exact x_ireturn2 (pc := 167) dX9_singsOf_167 rfl h.1 h.2
theorem dX9_rangeOf_0 : decode cX9_rangeOf 0 = .ok (.iconst 2, 1) := by decide +kernel
theorem dX9_rangeOf_1 : decode cX9_rangeOf 1 = .ok (.aload_n 0, 1) := by decide +kernel
theorem dX9_rangeOf_2 : decode cX9_rangeOf 2 = .ok (.bipush 23, 2) := by decide +kernel
theorem dX9_rangeOf_4 : decode cX9_rangeOf 4 = .ok (.iload_n 1, 1) := by decide +kernel
theorem dX9_rangeOf_5 : decode cX9_rangeOf 5 = .ok (.iadd, 1) := by decide +kernel
theorem dX9_rangeOf_6 : decode cX9_rangeOf 6 = .ok (.iaload, 1) := by decide +kernel
theorem dX9_rangeOf_7 : decode cX9_rangeOf 7 = .ok (.ishl, 1) := by decide +kernel
theorem dX9_rangeOf_8 : decode cX9_rangeOf 8 = .ok (.iconst 1, 1) := by decide +kernel
theorem dX9_rangeOf_9 : decode cX9_rangeOf 9 = .ok (.aload_n 0, 1) := by decide +kernel
theorem dX9_rangeOf_10 : decode cX9_rangeOf 10 = .ok (.bipush 18, 2) := by decide +kernel
theorem dX9_rangeOf_12 : decode cX9_rangeOf 12 = .ok (.iload_n 1, 1) := by decide +kernel
theorem dX9_rangeOf_13 : decode cX9_rangeOf 13 = .ok (.iadd, 1) := by decide +kernel
theorem dX9_rangeOf_14 : decode cX9_rangeOf 14 = .ok (.iaload, 1) := by decide +kernel
theorem dX9_rangeOf_15 : decode cX9_rangeOf 15 = .ok (.ishl, 1) := by decide +kernel
theorem dX9_rangeOf_16 : decode cX9_rangeOf 16 = .ok (.isub, 1) := by decide +kernel
theorem dX9_rangeOf_17 : decode cX9_rangeOf 17 = .ok (.ireturn, 1) := by decide +kernel
def R_X9_rangeOf (r0 : Nat) (a1 : Int32) (σ : kS) (x : Int32) (τ : kS) : Prop := Run SM jX9_rangeOf [(.ref r0), (.int a1)] σ (some (.int x)) τ
set_option maxRecDepth 20000 in
theorem t_X9_rangeOf {r0 : Nat} {a1 : Int32} {σ : kS} {x : Int32} {τ : kS} (hr0 : k_is SM r0 1 38 = true) (h : vp_in ((23 : Int32) + a1) 38 ∧ (vp_in ((18 : Int32) + a1) 38 ∧ (x = (((2 : Int32) <<< ((σ.1 r0 ((23 : Int32) + a1).toNatClampNeg) &&& 31)) - ((1 : Int32) <<< ((σ.1 r0 ((18 : Int32) + a1).toNatClampNeg) &&& 31))) ∧ τ = σ))) : R_X9_rangeOf r0 a1 σ x τ := by
  refine x_run [some (.ref r0), some (.int a1)] (by decide +kernel) rfl (Nat.le_of_ble_eq_true rfl) ?_
  refine x_iconst (pc := 0) (2 : Int32) dX9_rangeOf_0 (by decide +kernel) ?_
  refine x_aload_n (pc := 1) 0 dX9_rangeOf_1 rfl rfl ?_
  refine x_bipush (pc := 2) (23 : Int32) dX9_rangeOf_2 (by decide +kernel) ?_
  refine x_iload_n (pc := 4) 1 dX9_rangeOf_4 rfl rfl ?_
  refine x_iadd (pc := 5) dX9_rangeOf_5 ?_
  obtain ⟨g1, h⟩ := h
  refine x_iaload (pc := 6) (n := 38) dX9_rangeOf_6 hr0 g1 ?_
  refine x_ishl (pc := 7) dX9_rangeOf_7 ?_
  refine x_iconst (pc := 8) (1 : Int32) dX9_rangeOf_8 (by decide +kernel) ?_
  refine x_aload_n (pc := 9) 0 dX9_rangeOf_9 rfl rfl ?_
  refine x_bipush (pc := 10) (18 : Int32) dX9_rangeOf_10 (by decide +kernel) ?_
  refine x_iload_n (pc := 12) 1 dX9_rangeOf_12 rfl rfl ?_
  refine x_iadd (pc := 13) dX9_rangeOf_13 ?_
  obtain ⟨g2, h⟩ := h
  refine x_iaload (pc := 14) (n := 38) dX9_rangeOf_14 hr0 g2 ?_
  refine x_ishl (pc := 15) dX9_rangeOf_15 ?_
  refine x_isub (pc := 16) dX9_rangeOf_16 ?_
  exact x_ireturn2 (pc := 17) dX9_rangeOf_17 rfl h.1 h.2
theorem dX9_singIn_0 : decode cX9_singIn 0 = .ok (.aload_n 1, 1) := by decide +kernel
theorem dX9_singIn_1 : decode cX9_singIn 1 = .ok (.aload_n 1, 1) := by decide +kernel
theorem dX9_singIn_2 : decode cX9_singIn 2 = .ok (.bipush 8, 2) := by decide +kernel
theorem dX9_singIn_4 : decode cX9_singIn 4 = .ok (.iload_n 2, 1) := by decide +kernel
theorem dX9_singIn_5 : decode cX9_singIn 5 = .ok (.iadd, 1) := by decide +kernel
theorem dX9_singIn_6 : decode cX9_singIn 6 = .ok (.iaload, 1) := by decide +kernel
theorem dX9_singIn_7 : decode cX9_singIn 7 = .ok (.invokestatic 113, 3) := by decide +kernel
theorem dX9_singIn_10 : decode cX9_singIn 10 = .ok (.istore 4, 2) := by decide +kernel
theorem dX9_singIn_12 : decode cX9_singIn 12 = .ok (.iload 4, 2) := by decide +kernel
theorem dX9_singIn_14 : decode cX9_singIn 14 = .ok (.ifCond .ge 5, 3) := by decide +kernel
theorem dX9_singIn_17 : decode cX9_singIn 17 = .ok (.iconst (-1), 1) := by decide +kernel
theorem dX9_singIn_18 : decode cX9_singIn 18 = .ok (.ireturn, 1) := by decide +kernel
theorem dX9_singIn_19 : decode cX9_singIn 19 = .ok (.aload_n 1, 1) := by decide +kernel
theorem dX9_singIn_20 : decode cX9_singIn 20 = .ok (.aload_n 1, 1) := by decide +kernel
theorem dX9_singIn_21 : decode cX9_singIn 21 = .ok (.bipush 8, 2) := by decide +kernel
theorem dX9_singIn_23 : decode cX9_singIn 23 = .ok (.iload_n 2, 1) := by decide +kernel
theorem dX9_singIn_24 : decode cX9_singIn 24 = .ok (.iadd, 1) := by decide +kernel
theorem dX9_singIn_25 : decode cX9_singIn 25 = .ok (.iaload, 1) := by decide +kernel
theorem dX9_singIn_26 : decode cX9_singIn 26 = .ok (.iload 4, 2) := by decide +kernel
theorem dX9_singIn_28 : decode cX9_singIn 28 = .ok (.invokestatic 117, 3) := by decide +kernel
theorem dX9_singIn_31 : decode cX9_singIn 31 = .ok (.istore 5, 2) := by decide +kernel
theorem dX9_singIn_33 : decode cX9_singIn 33 = .ok (.iconst 0, 1) := by decide +kernel
theorem dX9_singIn_34 : decode cX9_singIn 34 = .ok (.istore 6, 2) := by decide +kernel
theorem dX9_singIn_36 : decode cX9_singIn 36 = .ok (.iload 6, 2) := by decide +kernel
theorem dX9_singIn_38 : decode cX9_singIn 38 = .ok (.aload_n 1, 1) := by decide +kernel
theorem dX9_singIn_39 : decode cX9_singIn 39 = .ok (.iconst 3, 1) := by decide +kernel
theorem dX9_singIn_40 : decode cX9_singIn 40 = .ok (.iaload, 1) := by decide +kernel
theorem dX9_singIn_41 : decode cX9_singIn 41 = .ok (.if_icmp .ge 88, 3) := by decide +kernel
theorem dX9_singIn_44 : decode cX9_singIn 44 = .ok (.iload_n 3, 1) := by decide +kernel
theorem dX9_singIn_45 : decode cX9_singIn 45 = .ok (.iload 6, 2) := by decide +kernel
theorem dX9_singIn_47 : decode cX9_singIn 47 = .ok (.invokestatic 133, 3) := by decide +kernel
theorem dX9_singIn_50 : decode cX9_singIn 50 = .ok (.ifCond .eq 73, 3) := by decide +kernel
theorem dX9_singIn_53 : decode cX9_singIn 53 = .ok (.aload_n 1, 1) := by decide +kernel
theorem dX9_singIn_54 : decode cX9_singIn 54 = .ok (.bipush 28, 2) := by decide +kernel
theorem dX9_singIn_56 : decode cX9_singIn 56 = .ok (.iload 6, 2) := by decide +kernel
theorem dX9_singIn_58 : decode cX9_singIn 58 = .ok (.iadd, 1) := by decide +kernel
theorem dX9_singIn_59 : decode cX9_singIn 59 = .ok (.iaload, 1) := by decide +kernel
theorem dX9_singIn_60 : decode cX9_singIn 60 = .ok (.bipush 8, 2) := by decide +kernel
theorem dX9_singIn_62 : decode cX9_singIn 62 = .ok (.if_icmp .ge 61, 3) := by decide +kernel
theorem dX9_singIn_65 : decode cX9_singIn 65 = .ok (.aload_n 1, 1) := by decide +kernel
theorem dX9_singIn_66 : decode cX9_singIn 66 = .ok (.bipush 13, 2) := by decide +kernel
theorem dX9_singIn_68 : decode cX9_singIn 68 = .ok (.iload 6, 2) := by decide +kernel
theorem dX9_singIn_70 : decode cX9_singIn 70 = .ok (.iadd, 1) := by decide +kernel
theorem dX9_singIn_71 : decode cX9_singIn 71 = .ok (.iaload, 1) := by decide +kernel
theorem dX9_singIn_72 : decode cX9_singIn 72 = .ok (.iload 5, 2) := by decide +kernel
theorem dX9_singIn_74 : decode cX9_singIn 74 = .ok (.aload_n 1, 1) := by decide +kernel
theorem dX9_singIn_75 : decode cX9_singIn 75 = .ok (.iload 6, 2) := by decide +kernel
theorem dX9_singIn_77 : decode cX9_singIn 77 = .ok (.invokestatic 143, 3) := by decide +kernel
theorem dX9_singIn_80 : decode cX9_singIn 80 = .ok (.iand, 1) := by decide +kernel
theorem dX9_singIn_81 : decode cX9_singIn 81 = .ok (.iload 4, 2) := by decide +kernel
theorem dX9_singIn_83 : decode cX9_singIn 83 = .ok (.bipush 12, 2) := by decide +kernel
theorem dX9_singIn_85 : decode cX9_singIn 85 = .ok (.irem, 1) := by decide +kernel
theorem dX9_singIn_86 : decode cX9_singIn 86 = .ok (.invokestatic 146, 3) := by decide +kernel
theorem dX9_singIn_89 : decode cX9_singIn 89 = .ok (.istore 7, 2) := by decide +kernel
theorem dX9_singIn_91 : decode cX9_singIn 91 = .ok (.aload_n 0, 1) := by decide +kernel
theorem dX9_singIn_92 : decode cX9_singIn 92 = .ok (.getfield 42, 3) := by decide +kernel
theorem dX9_singIn_95 : decode cX9_singIn 95 = .ok (.iload 6, 2) := by decide +kernel
theorem dX9_singIn_97 : decode cX9_singIn 97 = .ok (.iload 7, 2) := by decide +kernel
theorem dX9_singIn_99 : decode cX9_singIn 99 = .ok (.iastore, 1) := by decide +kernel
theorem dX9_singIn_100 : decode cX9_singIn 100 = .ok (.iload 7, 2) := by decide +kernel
theorem dX9_singIn_102 : decode cX9_singIn 102 = .ok (.bipush 12, 2) := by decide +kernel
theorem dX9_singIn_104 : decode cX9_singIn 104 = .ok (.if_icmp .ne 8, 3) := by decide +kernel
theorem dX9_singIn_107 : decode cX9_singIn 107 = .ok (.iload 5, 2) := by decide +kernel
theorem dX9_singIn_109 : decode cX9_singIn 109 = .ok (.goto 12, 3) := by decide +kernel
theorem dX9_singIn_112 : decode cX9_singIn 112 = .ok (.iload 5, 2) := by decide +kernel
theorem dX9_singIn_114 : decode cX9_singIn 114 = .ok (.iconst 1, 1) := by decide +kernel
theorem dX9_singIn_115 : decode cX9_singIn 115 = .ok (.iload 7, 2) := by decide +kernel
theorem dX9_singIn_117 : decode cX9_singIn 117 = .ok (.ishl, 1) := by decide +kernel
theorem dX9_singIn_118 : decode cX9_singIn 118 = .ok (.iconst (-1), 1) := by decide +kernel
theorem dX9_singIn_119 : decode cX9_singIn 119 = .ok (.ixor, 1) := by decide +kernel
theorem dX9_singIn_120 : decode cX9_singIn 120 = .ok (.iand, 1) := by decide +kernel
theorem dX9_singIn_121 : decode cX9_singIn 121 = .ok (.istore 5, 2) := by decide +kernel
theorem dX9_singIn_123 : decode cX9_singIn 123 = .ok (.iinc 6 1, 3) := by decide +kernel
theorem dX9_singIn_126 : decode cX9_singIn 126 = .ok (.goto (-90), 3) := by decide +kernel
theorem dX9_singIn_129 : decode cX9_singIn 129 = .ok (.iload 5, 2) := by decide +kernel
theorem dX9_singIn_131 : decode cX9_singIn 131 = .ok (.ireturn, 1) := by decide +kernel
def R_X9_singIn (r1 : Nat) (a2 : Int32) (a3 : Int32) (σ : kS) (x : Int32) (τ : kS) : Prop := Run SM jX9_singIn [(.ref 0), (.ref r1), (.int a2), (.int a3)] σ (some (.int x)) τ
def E_X9_singIn_36 (r1 : Nat) (l3 : Int32) (l4 : Int32) (l5 : Int32) (l6 : Int32) (σ : kS) (x : Int32) (τ : kS) : Prop := Ex SM jX9_singIn 36 [some (.ref 0), some (.ref r1), none, some (.int l3), some (.int l4), some (.int l5), some (.int l6), none] [] σ (some (.int x)) τ
set_option maxRecDepth 20000 in
theorem t_X9_singIn {r1 : Nat} {a2 : Int32} {a3 : Int32} {σ : kS} {x : Int32} {τ : kS} (hr1 : k_is SM r1 1 38 = true) (h : vp_in ((8 : Int32) + a2) 38 ∧ (∃ (x3 : Int32) (s2 : kS), R_X9_chordBy r1 (σ.1 r1 ((8 : Int32) + a2).toNatClampNeg) σ x3 s2 ∧ ((0 ≤ x3 → vp_in ((8 : Int32) + a2) 38 ∧ (∃ (x7 : Int32) (s6 : kS), R_X9_missingBy r1 (s2.1 r1 ((8 : Int32) + a2).toNatClampNeg) x3 s2 x7 s6 ∧ (E_X9_singIn_36 r1 a3 x3 x7 (0 : Int32) s6 x τ))) ∧ (¬ 0 ≤ x3 → x = (-1 : Int32) ∧ τ = s2)))) : R_X9_singIn r1 a2 a3 σ x τ := by
  refine x_run [some (.ref 0), some (.ref r1), some (.int a2), some (.int a3), none, none, none, none] (by decide +kernel) rfl (Nat.le_of_ble_eq_true rfl) ?_
  refine x_aload_n (pc := 0) 1 dX9_singIn_0 rfl rfl ?_
  refine x_aload_n (pc := 1) 1 dX9_singIn_1 rfl rfl ?_
  refine x_bipush (pc := 2) (8 : Int32) dX9_singIn_2 (by decide +kernel) ?_
  refine x_iload_n (pc := 4) 2 dX9_singIn_4 rfl rfl ?_
  refine x_iadd (pc := 5) dX9_singIn_5 ?_
  obtain ⟨g1, h⟩ := h
  refine x_iaload (pc := 6) (n := 38) dX9_singIn_6 hr1 g1 ?_
  obtain ⟨x3, s2, hr, h⟩ := h
  refine x_callS (pc := 7) [(.ref r1), (.int (σ.1 r1 ((8 : Int32) + a2).toNatClampNeg))] [] dX9_singIn_7 ⟨⟨hX9_chordBy.1, hX9_chordBy.2.1, hX9_chordBy.2.2, by decide⟩, mX9_113, sX9_chordBy⟩ rfl rfl (Nat.le_of_ble_eq_true rfl) hr ?_
  refine x_istore (pc := 10) dX9_singIn_10 (by decide) rfl ?_
  refine x_iload (pc := 12) dX9_singIn_12 rfl ?_
  refine x_if_ge (pc := 14) 19 dX9_singIn_14 (by decide) (fun c4 => ?_) (fun c4 => ?_)
  · replace h := h.1 c4
    refine x_aload_n (pc := 19) 1 dX9_singIn_19 rfl rfl ?_
    refine x_aload_n (pc := 20) 1 dX9_singIn_20 rfl rfl ?_
    refine x_bipush (pc := 21) (8 : Int32) dX9_singIn_21 (by decide +kernel) ?_
    refine x_iload_n (pc := 23) 2 dX9_singIn_23 rfl rfl ?_
    refine x_iadd (pc := 24) dX9_singIn_24 ?_
    obtain ⟨g5, h⟩ := h
    refine x_iaload (pc := 25) (n := 38) dX9_singIn_25 hr1 g5 ?_
    refine x_iload (pc := 26) dX9_singIn_26 rfl ?_
    obtain ⟨x7, s6, hr, h⟩ := h
    refine x_callS (pc := 28) [(.ref r1), (.int (s2.1 r1 ((8 : Int32) + a2).toNatClampNeg)), (.int x3)] [] dX9_singIn_28 ⟨⟨hX9_missingBy.1, hX9_missingBy.2.1, hX9_missingBy.2.2, by decide⟩, mX9_117, sX9_missingBy⟩ rfl rfl (Nat.le_of_ble_eq_true rfl) hr ?_
    refine x_istore (pc := 31) dX9_singIn_31 (by decide) rfl ?_
    refine x_iconst (pc := 33) (0 : Int32) dX9_singIn_33 (by decide +kernel) ?_
    refine x_istore (pc := 34) dX9_singIn_34 (by decide) rfl ?_
    exact x_mask [true, true, false, true, true, true, true, false] h
  · replace h := h.2 c4
    refine x_iconst (pc := 17) (-1 : Int32) dX9_singIn_17 (by decide +kernel) ?_
    exact x_ireturn2 (pc := 18) dX9_singIn_18 rfl h.1 h.2
set_option maxRecDepth 20000 in
theorem t_X9_singIn_36 {r1 : Nat} {l3 : Int32} {l4 : Int32} {l5 : Int32} {l6 : Int32} {σ : kS} {x : Int32} {τ : kS} (hr1 : k_is SM r1 1 38 = true) (h : ((σ.1 r1 3) ≤ l6 → x = l5 ∧ τ = σ) ∧ (¬ (σ.1 r1 3) ≤ l6 → (¬ (hs l3 l6) → E_X9_singIn_36 r1 l3 l4 l5 (l6 + (1 : Int32)) σ x τ) ∧ ((hs l3 l6) → vp_in ((28 : Int32) + l6) 38 ∧ (((8 : Int32) ≤ (σ.1 r1 ((28 : Int32) + l6).toNatClampNeg) → E_X9_singIn_36 r1 l3 l4 l5 (l6 + (1 : Int32)) σ x τ) ∧ (¬ (8 : Int32) ≤ (σ.1 r1 ((28 : Int32) + l6).toNatClampNeg) → vp_in ((13 : Int32) + l6) 38 ∧ (∃ (x7 : Int32) (s6 : kS), R_X9_rangeOf r1 l6 σ x7 s6 ∧ (∃ (x9 : Int32) (s8 : kS), R_X9_singsOf (σ.1 r1 ((13 : Int32) + l6).toNatClampNeg) (l5 &&& x7) (l4 - l4 / (12 : Int32) * (12 : Int32)) s6 x9 s8 ∧ (vp_in l6 5 ∧ ((¬ x9 = (12 : Int32) → E_X9_singIn_36 r1 l3 l4 (l5 &&& (((1 : Int32) <<< (x9 &&& 31)) ^^^ (-1 : Int32))) (l6 + (1 : Int32)) (k_si s8 11 l6.toNatClampNeg x9) x τ) ∧ (x9 = (12 : Int32) → E_X9_singIn_36 r1 l3 l4 l5 (l6 + (1 : Int32)) (k_si s8 11 l6.toNatClampNeg x9) x τ)))))))))) : E_X9_singIn_36 r1 l3 l4 l5 l6 σ x τ := by
  unfold E_X9_singIn_36
  refine x_iload (pc := 36) dX9_singIn_36 rfl ?_
  refine x_aload_n (pc := 38) 1 dX9_singIn_38 rfl rfl ?_
  refine x_iconst (pc := 39) (3 : Int32) dX9_singIn_39 (by decide +kernel) ?_
  refine x_ialoadK (pc := 40) (n := 38) 3 dX9_singIn_40 hr1 (by decide) (by decide +kernel) ?_
  refine x_icmp_ge (pc := 41) 129 dX9_singIn_41 (by decide) (fun c1 => ?_) (fun c1 => ?_)
  · replace h := h.1 c1
    refine x_iload (pc := 129) dX9_singIn_129 rfl ?_
    exact x_ireturn2 (pc := 131) dX9_singIn_131 rfl h.1 h.2
  · replace h := h.2 c1
    refine x_iload_n (pc := 44) 3 dX9_singIn_44 rfl rfl ?_
    refine x_iload (pc := 45) dX9_singIn_45 rfl ?_
    refine x_callS (pc := 47) [(.int l3), (.int l6)] [] dX9_singIn_47 ⟨⟨hX9_has.1, hX9_has.2.1, hX9_has.2.2, by decide⟩, mX9_133, sX9_has⟩ rfl rfl (Nat.le_of_ble_eq_true rfl) (i_X9_has) ?_
    refine x_bif_eq (pc := 50) 123 dX9_singIn_50 (by decide) (fun c2 => ?_) (fun c2 => ?_)
    · replace h := h.1 c2
      refine x_iinc (pc := 123) (1 : Int32) dX9_singIn_123 (by decide) rfl rfl (by decide +kernel) ?_
      refine x_goto (pc := 126) 36 dX9_singIn_126 (by decide) ?_
      exact h
    · replace h := h.2 c2
      refine x_aload_n (pc := 53) 1 dX9_singIn_53 rfl rfl ?_
      refine x_bipush (pc := 54) (28 : Int32) dX9_singIn_54 (by decide +kernel) ?_
      refine x_iload (pc := 56) dX9_singIn_56 rfl ?_
      refine x_iadd (pc := 58) dX9_singIn_58 ?_
      obtain ⟨g3, h⟩ := h
      refine x_iaload (pc := 59) (n := 38) dX9_singIn_59 hr1 g3 ?_
      refine x_bipush (pc := 60) (8 : Int32) dX9_singIn_60 (by decide +kernel) ?_
      refine x_icmp_ge (pc := 62) 123 dX9_singIn_62 (by decide) (fun c4 => ?_) (fun c4 => ?_)
      · replace h := h.1 c4
        refine x_iinc (pc := 123) (1 : Int32) dX9_singIn_123 (by decide) rfl rfl (by decide +kernel) ?_
        refine x_goto (pc := 126) 36 dX9_singIn_126 (by decide) ?_
        exact h
      · replace h := h.2 c4
        refine x_aload_n (pc := 65) 1 dX9_singIn_65 rfl rfl ?_
        refine x_bipush (pc := 66) (13 : Int32) dX9_singIn_66 (by decide +kernel) ?_
        refine x_iload (pc := 68) dX9_singIn_68 rfl ?_
        refine x_iadd (pc := 70) dX9_singIn_70 ?_
        obtain ⟨g5, h⟩ := h
        refine x_iaload (pc := 71) (n := 38) dX9_singIn_71 hr1 g5 ?_
        refine x_iload (pc := 72) dX9_singIn_72 rfl ?_
        refine x_aload_n (pc := 74) 1 dX9_singIn_74 rfl rfl ?_
        refine x_iload (pc := 75) dX9_singIn_75 rfl ?_
        obtain ⟨x7, s6, hr, h⟩ := h
        refine x_callS (pc := 77) [(.ref r1), (.int l6)] [(.int l5), (.int (σ.1 r1 ((13 : Int32) + l6).toNatClampNeg))] dX9_singIn_77 ⟨⟨hX9_rangeOf.1, hX9_rangeOf.2.1, hX9_rangeOf.2.2, by decide⟩, mX9_143, sX9_rangeOf⟩ rfl rfl (Nat.le_of_ble_eq_true rfl) hr ?_
        refine x_iand (pc := 80) dX9_singIn_80 ?_
        refine x_iload (pc := 81) dX9_singIn_81 rfl ?_
        refine x_bipush (pc := 83) (12 : Int32) dX9_singIn_83 (by decide +kernel) ?_
        refine x_irem (pc := 85) dX9_singIn_85 (by decide) ?_
        obtain ⟨x9, s8, hr, h⟩ := h
        refine x_callS (pc := 86) [(.int (σ.1 r1 ((13 : Int32) + l6).toNatClampNeg)), (.int (l5 &&& x7)), (.int (l4 - l4 / (12 : Int32) * (12 : Int32)))] [] dX9_singIn_86 ⟨⟨hX9_singsOf.1, hX9_singsOf.2.1, hX9_singsOf.2.2, by decide⟩, mX9_146, sX9_singsOf⟩ rfl rfl (Nat.le_of_ble_eq_true rfl) hr ?_
        refine x_istore (pc := 89) dX9_singIn_89 (by decide) rfl ?_
        refine x_aload_n (pc := 91) 0 dX9_singIn_91 rfl rfl ?_
        refine x_getR (pc := 92) dX9_singIn_92 fX9_42 rfl rfl ?_
        refine x_iload (pc := 95) dX9_singIn_95 rfl ?_
        refine x_iload (pc := 97) dX9_singIn_97 rfl ?_
        obtain ⟨g10, h⟩ := h
        refine x_iastore (pc := 99) (n := 5) dX9_singIn_99 rfl g10 ?_
        refine x_iload (pc := 100) dX9_singIn_100 rfl ?_
        refine x_bipush (pc := 102) (12 : Int32) dX9_singIn_102 (by decide +kernel) ?_
        refine x_icmp_ne (pc := 104) 112 dX9_singIn_104 (by decide) (fun c11 => ?_) (fun c11 => ?_)
        · replace h := h.1 c11
          refine x_iload (pc := 112) dX9_singIn_112 rfl ?_
          refine x_iconst (pc := 114) (1 : Int32) dX9_singIn_114 (by decide +kernel) ?_
          refine x_iload (pc := 115) dX9_singIn_115 rfl ?_
          refine x_ishl (pc := 117) dX9_singIn_117 ?_
          refine x_iconst (pc := 118) (-1 : Int32) dX9_singIn_118 (by decide +kernel) ?_
          refine x_ixor (pc := 119) dX9_singIn_119 ?_
          refine x_iand (pc := 120) dX9_singIn_120 ?_
          refine x_istore (pc := 121) dX9_singIn_121 (by decide) rfl ?_
          refine x_iinc (pc := 123) (1 : Int32) dX9_singIn_123 (by decide) rfl rfl (by decide +kernel) ?_
          refine x_goto (pc := 126) 36 dX9_singIn_126 (by decide) ?_
          exact x_mask [true, true, false, true, true, true, true, false] h
        · replace h := h.2 c11
          refine x_iload (pc := 107) dX9_singIn_107 rfl ?_
          refine x_goto (pc := 109) 121 dX9_singIn_109 (by decide) ?_
          refine x_istore (pc := 121) dX9_singIn_121 (by decide) rfl ?_
          refine x_iinc (pc := 123) (1 : Int32) dX9_singIn_123 (by decide) rfl rfl (by decide +kernel) ?_
          refine x_goto (pc := 126) 36 dX9_singIn_126 (by decide) ?_
          exact x_mask [true, true, false, true, true, true, true, false] h
theorem dX9_hush_0 : decode cX9_hush 0 = .ok (.iconst 0, 1) := by decide +kernel
theorem dX9_hush_1 : decode cX9_hush 1 = .ok (.istore_n 1, 1) := by decide +kernel
theorem dX9_hush_2 : decode cX9_hush 2 = .ok (.iload_n 1, 1) := by decide +kernel
theorem dX9_hush_3 : decode cX9_hush 3 = .ok (.iconst 5, 1) := by decide +kernel
theorem dX9_hush_4 : decode cX9_hush 4 = .ok (.if_icmp .ge 17, 3) := by decide +kernel
theorem dX9_hush_7 : decode cX9_hush 7 = .ok (.aload_n 0, 1) := by decide +kernel
theorem dX9_hush_8 : decode cX9_hush 8 = .ok (.getfield 42, 3) := by decide +kernel
theorem dX9_hush_11 : decode cX9_hush 11 = .ok (.iload_n 1, 1) := by decide +kernel
theorem dX9_hush_12 : decode cX9_hush 12 = .ok (.bipush 12, 2) := by decide +kernel
theorem dX9_hush_14 : decode cX9_hush 14 = .ok (.iastore, 1) := by decide +kernel
theorem dX9_hush_15 : decode cX9_hush 15 = .ok (.iinc 1 1, 3) := by decide +kernel
theorem dX9_hush_18 : decode cX9_hush 18 = .ok (.goto (-16), 3) := by decide +kernel
theorem dX9_hush_21 : decode cX9_hush 21 = .ok (.return_, 1) := by decide +kernel
def R_X9_hush  (σ : kS) (τ : kS) : Prop := Run SM jX9_hush [(.ref 0)] σ none τ
def E_X9_hush_2 (l1 : Int32) (σ : kS) (τ : kS) : Prop := Ex SM jX9_hush 2 [some (.ref 0), some (.int l1)] [] σ none τ
set_option maxRecDepth 20000 in
theorem t_X9_hush  {σ : kS} {τ : kS}  (h : E_X9_hush_2 (0 : Int32) σ τ) : R_X9_hush  σ τ := by
  refine x_run [some (.ref 0), none] (by decide +kernel) rfl (Nat.le_of_ble_eq_true rfl) ?_
  refine x_iconst (pc := 0) (0 : Int32) dX9_hush_0 (by decide +kernel) ?_
  refine x_istore_n (pc := 1) 1 dX9_hush_1 rfl (by decide) rfl ?_
  exact h
set_option maxRecDepth 20000 in
theorem t_X9_hush_2 {l1 : Int32} {σ : kS} {τ : kS}  (h : ((5 : Int32) ≤ l1 → τ = σ) ∧ (¬ (5 : Int32) ≤ l1 → vp_in l1 5 ∧ (E_X9_hush_2 (l1 + (1 : Int32)) (k_si σ 11 l1.toNatClampNeg (12 : Int32)) τ))) : E_X9_hush_2 l1 σ τ := by
  unfold E_X9_hush_2
  refine x_iload_n (pc := 2) 1 dX9_hush_2 rfl rfl ?_
  refine x_iconst (pc := 3) (5 : Int32) dX9_hush_3 (by decide +kernel) ?_
  refine x_icmp_ge (pc := 4) 21 dX9_hush_4 (by decide) (fun c1 => ?_) (fun c1 => ?_)
  · replace h := h.1 c1
    exact x_return2 (pc := 21) dX9_hush_21 rfl h
  · replace h := h.2 c1
    refine x_aload_n (pc := 7) 0 dX9_hush_7 rfl rfl ?_
    refine x_getR (pc := 8) dX9_hush_8 fX9_42 rfl rfl ?_
    refine x_iload_n (pc := 11) 1 dX9_hush_11 rfl rfl ?_
    refine x_bipush (pc := 12) (12 : Int32) dX9_hush_12 (by decide +kernel) ?_
    obtain ⟨g2, h⟩ := h
    refine x_iastore (pc := 14) (n := 5) dX9_hush_14 rfl g2 ?_
    refine x_iinc (pc := 15) (1 : Int32) dX9_hush_15 (by decide) rfl rfl (by decide +kernel) ?_
    refine x_goto (pc := 18) 2 dX9_hush_18 (by decide) ?_
    exact h
theorem dX9_singAll_0 : decode cX9_singAll 0 = .ok (.aload_n 0, 1) := by decide +kernel
theorem dX9_singAll_1 : decode cX9_singAll 1 = .ok (.invokevirtual 150, 3) := by decide +kernel
theorem dX9_singAll_4 : decode cX9_singAll 4 = .ok (.iconst 0, 1) := by decide +kernel
theorem dX9_singAll_5 : decode cX9_singAll 5 = .ok (.istore_n 2, 1) := by decide +kernel
theorem dX9_singAll_6 : decode cX9_singAll 6 = .ok (.iconst 0, 1) := by decide +kernel
theorem dX9_singAll_7 : decode cX9_singAll 7 = .ok (.istore_n 3, 1) := by decide +kernel
theorem dX9_singAll_8 : decode cX9_singAll 8 = .ok (.iload_n 3, 1) := by decide +kernel
theorem dX9_singAll_9 : decode cX9_singAll 9 = .ok (.aload_n 1, 1) := by decide +kernel
theorem dX9_singAll_10 : decode cX9_singAll 10 = .ok (.iconst 2, 1) := by decide +kernel
theorem dX9_singAll_11 : decode cX9_singAll 11 = .ok (.iaload, 1) := by decide +kernel
theorem dX9_singAll_12 : decode cX9_singAll 12 = .ok (.if_icmp .ge 33, 3) := by decide +kernel
theorem dX9_singAll_15 : decode cX9_singAll 15 = .ok (.iload_n 2, 1) := by decide +kernel
theorem dX9_singAll_16 : decode cX9_singAll 16 = .ok (.aload_n 0, 1) := by decide +kernel
theorem dX9_singAll_17 : decode cX9_singAll 17 = .ok (.aload_n 1, 1) := by decide +kernel
theorem dX9_singAll_18 : decode cX9_singAll 18 = .ok (.iload_n 3, 1) := by decide +kernel
theorem dX9_singAll_19 : decode cX9_singAll 19 = .ok (.aload_n 1, 1) := by decide +kernel
theorem dX9_singAll_20 : decode cX9_singAll 20 = .ok (.iload_n 3, 1) := by decide +kernel
theorem dX9_singAll_21 : decode cX9_singAll 21 = .ok (.invokestatic 124, 3) := by decide +kernel
theorem dX9_singAll_24 : decode cX9_singAll 24 = .ok (.invokevirtual 153, 3) := by decide +kernel
theorem dX9_singAll_27 : decode cX9_singAll 27 = .ok (.ifCond .ne 9, 3) := by decide +kernel
theorem dX9_singAll_30 : decode cX9_singAll 30 = .ok (.iconst 1, 1) := by decide +kernel
theorem dX9_singAll_31 : decode cX9_singAll 31 = .ok (.iload_n 3, 1) := by decide +kernel
theorem dX9_singAll_32 : decode cX9_singAll 32 = .ok (.ishl, 1) := by decide +kernel
theorem dX9_singAll_33 : decode cX9_singAll 33 = .ok (.goto 4, 3) := by decide +kernel
theorem dX9_singAll_36 : decode cX9_singAll 36 = .ok (.iconst 0, 1) := by decide +kernel
theorem dX9_singAll_37 : decode cX9_singAll 37 = .ok (.ior, 1) := by decide +kernel
theorem dX9_singAll_38 : decode cX9_singAll 38 = .ok (.istore_n 2, 1) := by decide +kernel
theorem dX9_singAll_39 : decode cX9_singAll 39 = .ok (.iinc 3 1, 3) := by decide +kernel
theorem dX9_singAll_42 : decode cX9_singAll 42 = .ok (.goto (-34), 3) := by decide +kernel
theorem dX9_singAll_45 : decode cX9_singAll 45 = .ok (.iload_n 2, 1) := by decide +kernel
theorem dX9_singAll_46 : decode cX9_singAll 46 = .ok (.ireturn, 1) := by decide +kernel
def R_X9_singAll (r1 : Nat) (σ : kS) (x : Int32) (τ : kS) : Prop := Run SM jX9_singAll [(.ref 0), (.ref r1)] σ (some (.int x)) τ
def E_X9_singAll_8 (r1 : Nat) (l2 : Int32) (l3 : Int32) (σ : kS) (x : Int32) (τ : kS) : Prop := Ex SM jX9_singAll 8 [some (.ref 0), some (.ref r1), some (.int l2), some (.int l3)] [] σ (some (.int x)) τ
set_option maxRecDepth 20000 in
theorem t_X9_singAll {r1 : Nat} {σ : kS} {x : Int32} {τ : kS} (hr1 : k_is SM r1 1 38 = true) (h : ∃ s1 : kS, R_X9_hush  σ s1 ∧ (E_X9_singAll_8 r1 (0 : Int32) (0 : Int32) s1 x τ)) : R_X9_singAll r1 σ x τ := by
  refine x_run [some (.ref 0), some (.ref r1), none, none] (by decide +kernel) rfl (Nat.le_of_ble_eq_true rfl) ?_
  refine x_aload_n (pc := 0) 0 dX9_singAll_0 rfl rfl ?_
  obtain ⟨s1, hr, h⟩ := h
  refine x_callV (pc := 1) [] [] dX9_singAll_1 ⟨⟨hX9_hush.1, hX9_hush.2.1, hX9_hush.2.2, by decide⟩, mX9_150, vX9_hush.1, vX9_hush.2⟩ (ci := 9) rfl rfl rfl rfl (Nat.le_of_ble_eq_true rfl) hr ?_
  refine x_iconst (pc := 4) (0 : Int32) dX9_singAll_4 (by decide +kernel) ?_
  refine x_istore_n (pc := 5) 2 dX9_singAll_5 rfl (by decide) rfl ?_
  refine x_iconst (pc := 6) (0 : Int32) dX9_singAll_6 (by decide +kernel) ?_
  refine x_istore_n (pc := 7) 3 dX9_singAll_7 rfl (by decide) rfl ?_
  exact h
set_option maxRecDepth 20000 in
theorem t_X9_singAll_8 {r1 : Nat} {l2 : Int32} {l3 : Int32} {σ : kS} {x : Int32} {τ : kS} (hr1 : k_is SM r1 1 38 = true) (h : ((σ.1 r1 2) ≤ l3 → x = l2 ∧ τ = σ) ∧ (¬ (σ.1 r1 2) ≤ l3 → ∃ (x3 : Int32) (s2 : kS), R_X9_whoAt r1 l3 σ x3 s2 ∧ (∃ (x5 : Int32) (s4 : kS), R_X9_singIn r1 l3 x3 s2 x5 s4 ∧ ((¬ x5 = 0 → E_X9_singAll_8 r1 (l2 ||| (0 : Int32)) (l3 + (1 : Int32)) s4 x τ) ∧ (x5 = 0 → E_X9_singAll_8 r1 (l2 ||| ((1 : Int32) <<< (l3 &&& 31))) (l3 + (1 : Int32)) s4 x τ))))) : E_X9_singAll_8 r1 l2 l3 σ x τ := by
  unfold E_X9_singAll_8
  refine x_iload_n (pc := 8) 3 dX9_singAll_8 rfl rfl ?_
  refine x_aload_n (pc := 9) 1 dX9_singAll_9 rfl rfl ?_
  refine x_iconst (pc := 10) (2 : Int32) dX9_singAll_10 (by decide +kernel) ?_
  refine x_ialoadK (pc := 11) (n := 38) 2 dX9_singAll_11 hr1 (by decide) (by decide +kernel) ?_
  refine x_icmp_ge (pc := 12) 45 dX9_singAll_12 (by decide) (fun c1 => ?_) (fun c1 => ?_)
  · replace h := h.1 c1
    refine x_iload_n (pc := 45) 2 dX9_singAll_45 rfl rfl ?_
    exact x_ireturn2 (pc := 46) dX9_singAll_46 rfl h.1 h.2
  · replace h := h.2 c1
    refine x_iload_n (pc := 15) 2 dX9_singAll_15 rfl rfl ?_
    refine x_aload_n (pc := 16) 0 dX9_singAll_16 rfl rfl ?_
    refine x_aload_n (pc := 17) 1 dX9_singAll_17 rfl rfl ?_
    refine x_iload_n (pc := 18) 3 dX9_singAll_18 rfl rfl ?_
    refine x_aload_n (pc := 19) 1 dX9_singAll_19 rfl rfl ?_
    refine x_iload_n (pc := 20) 3 dX9_singAll_20 rfl rfl ?_
    obtain ⟨x3, s2, hr, h⟩ := h
    refine x_callS (pc := 21) [(.ref r1), (.int l3)] [(.int l3), (.ref r1), (.ref 0), (.int l2)] dX9_singAll_21 ⟨⟨hX9_whoAt.1, hX9_whoAt.2.1, hX9_whoAt.2.2, by decide⟩, mX9_124, sX9_whoAt⟩ rfl rfl (Nat.le_of_ble_eq_true rfl) hr ?_
    obtain ⟨x5, s4, hr, h⟩ := h
    refine x_callV (pc := 24) [(.ref r1), (.int l3), (.int x3)] [(.int l2)] dX9_singAll_24 ⟨⟨hX9_singIn.1, hX9_singIn.2.1, hX9_singIn.2.2, by decide⟩, mX9_153, vX9_singIn.1, vX9_singIn.2⟩ (ci := 9) rfl rfl rfl rfl (Nat.le_of_ble_eq_true rfl) hr ?_
    refine x_if_ne (pc := 27) 36 dX9_singAll_27 (by decide) (fun c6 => ?_) (fun c6 => ?_)
    · replace h := h.1 c6
      refine x_iconst (pc := 36) (0 : Int32) dX9_singAll_36 (by decide +kernel) ?_
      refine x_ior (pc := 37) dX9_singAll_37 ?_
      refine x_istore_n (pc := 38) 2 dX9_singAll_38 rfl (by decide) rfl ?_
      refine x_iinc (pc := 39) (1 : Int32) dX9_singAll_39 (by decide) rfl rfl (by decide +kernel) ?_
      refine x_goto (pc := 42) 8 dX9_singAll_42 (by decide) ?_
      exact h
    · replace h := h.2 c6
      refine x_iconst (pc := 30) (1 : Int32) dX9_singAll_30 (by decide +kernel) ?_
      refine x_iload_n (pc := 31) 3 dX9_singAll_31 rfl rfl ?_
      refine x_ishl (pc := 32) dX9_singAll_32 ?_
      refine x_goto (pc := 33) 37 dX9_singAll_33 (by decide) ?_
      refine x_ior (pc := 37) dX9_singAll_37 ?_
      refine x_istore_n (pc := 38) 2 dX9_singAll_38 rfl (by decide) rfl ?_
      refine x_iinc (pc := 39) (1 : Int32) dX9_singAll_39 (by decide) rfl rfl (by decide +kernel) ?_
      refine x_goto (pc := 42) 8 dX9_singAll_42 (by decide) ?_
      exact h
theorem dX9_tires_0 : decode cX9_tires 0 = .ok (.iload_n 0, 1) := by decide +kernel
theorem dX9_tires_1 : decode cX9_tires 1 = .ok (.tableswitch 37 2 5 #[31, 37, 33, 35], 31) := by decide +kernel
theorem dX9_tires_32 : decode cX9_tires 32 = .ok (.iconst 3, 1) := by decide +kernel
theorem dX9_tires_33 : decode cX9_tires 33 = .ok (.ireturn, 1) := by decide +kernel
theorem dX9_tires_34 : decode cX9_tires 34 = .ok (.iconst 1, 1) := by decide +kernel
theorem dX9_tires_35 : decode cX9_tires 35 = .ok (.ireturn, 1) := by decide +kernel
theorem dX9_tires_36 : decode cX9_tires 36 = .ok (.iconst 0, 1) := by decide +kernel
theorem dX9_tires_37 : decode cX9_tires 37 = .ok (.ireturn, 1) := by decide +kernel
theorem dX9_tires_38 : decode cX9_tires 38 = .ok (.iconst 2, 1) := by decide +kernel
theorem dX9_tires_39 : decode cX9_tires 39 = .ok (.ireturn, 1) := by decide +kernel
def R_X9_tires (a0 : Int32) (σ : kS) (x : Int32) (τ : kS) : Prop := Run SM jX9_tires [(.int a0)] σ (some (.int x)) τ
set_option maxRecDepth 20000 in
theorem t_X9_tires {a0 : Int32} {σ : kS} {x : Int32} {τ : kS}  (h : (a0.toInt = 2 → x = (3 : Int32) ∧ τ = σ) ∧ (a0.toInt = 3 → x = (2 : Int32) ∧ τ = σ) ∧ (a0.toInt = 4 → x = (1 : Int32) ∧ τ = σ) ∧ (a0.toInt = 5 → x = (0 : Int32) ∧ τ = σ) ∧ ((a0.toInt < 2 ∨ 5 < a0.toInt) → x = (2 : Int32) ∧ τ = σ)) : R_X9_tires a0 σ x τ := by
  refine x_run [some (.int a0)] (by decide +kernel) rfl (Nat.le_of_ble_eq_true rfl) ?_
  refine x_iload_n (pc := 0) 0 dX9_tires_0 rfl rfl ?_
  refine x_table (pc := 1) 38 dX9_tires_1 (by decide +kernel) (by decide +kernel) (by decide) (k_tb_cons (fun c1 => ?_) (k_tb_cons (fun c1 => ?_) (k_tb_cons (fun c1 => ?_) (k_tb_cons (fun c1 => ?_) k_tb_nil)))) (fun c1 => ?_)
  · replace h := h.1 c1
    refine x_iconst (pc := 32) (3 : Int32) dX9_tires_32 (by decide +kernel) ?_
    exact x_ireturn2 (pc := 33) dX9_tires_33 rfl h.1 h.2
  · replace h := h.2.1 c1
    refine x_iconst (pc := 38) (2 : Int32) dX9_tires_38 (by decide +kernel) ?_
    exact x_ireturn2 (pc := 39) dX9_tires_39 rfl h.1 h.2
  · replace h := h.2.2.1 c1
    refine x_iconst (pc := 34) (1 : Int32) dX9_tires_34 (by decide +kernel) ?_
    exact x_ireturn2 (pc := 35) dX9_tires_35 rfl h.1 h.2
  · replace h := h.2.2.2.1 c1
    refine x_iconst (pc := 36) (0 : Int32) dX9_tires_36 (by decide +kernel) ?_
    exact x_ireturn2 (pc := 37) dX9_tires_37 rfl h.1 h.2
  · replace h := h.2.2.2.2 c1
    refine x_iconst (pc := 38) (2 : Int32) dX9_tires_38 (by decide +kernel) ?_
    exact x_ireturn2 (pc := 39) dX9_tires_39 rfl h.1 h.2
theorem dX9_hourIn_0 : decode cX9_hourIn 0 = .ok (.aload_n 0, 1) := by decide +kernel
theorem dX9_hourIn_1 : decode cX9_hourIn 1 = .ok (.aload_n 1, 1) := by decide +kernel
theorem dX9_hourIn_2 : decode cX9_hourIn 2 = .ok (.invokevirtual 156, 3) := by decide +kernel
theorem dX9_hourIn_5 : decode cX9_hourIn 5 = .ok (.istore_n 2, 1) := by decide +kernel
theorem dX9_hourIn_6 : decode cX9_hourIn 6 = .ok (.iconst 0, 1) := by decide +kernel
theorem dX9_hourIn_7 : decode cX9_hourIn 7 = .ok (.istore_n 3, 1) := by decide +kernel
theorem dX9_hourIn_8 : decode cX9_hourIn 8 = .ok (.iload_n 3, 1) := by decide +kernel
theorem dX9_hourIn_9 : decode cX9_hourIn 9 = .ok (.aload_n 1, 1) := by decide +kernel
theorem dX9_hourIn_10 : decode cX9_hourIn 10 = .ok (.iconst 3, 1) := by decide +kernel
theorem dX9_hourIn_11 : decode cX9_hourIn 11 = .ok (.iaload, 1) := by decide +kernel
theorem dX9_hourIn_12 : decode cX9_hourIn 12 = .ok (.if_icmp .ge 59, 3) := by decide +kernel
theorem dX9_hourIn_15 : decode cX9_hourIn 15 = .ok (.aload_n 1, 1) := by decide +kernel
theorem dX9_hourIn_16 : decode cX9_hourIn 16 = .ok (.bipush 28, 2) := by decide +kernel
theorem dX9_hourIn_18 : decode cX9_hourIn 18 = .ok (.iload_n 3, 1) := by decide +kernel
theorem dX9_hourIn_19 : decode cX9_hourIn 19 = .ok (.iadd, 1) := by decide +kernel
theorem dX9_hourIn_20 : decode cX9_hourIn 20 = .ok (.iaload, 1) := by decide +kernel
theorem dX9_hourIn_21 : decode cX9_hourIn 21 = .ok (.ifCond .le 7, 3) := by decide +kernel
theorem dX9_hourIn_24 : decode cX9_hourIn 24 = .ok (.iconst (-1), 1) := by decide +kernel
theorem dX9_hourIn_25 : decode cX9_hourIn 25 = .ok (.goto 4, 3) := by decide +kernel
theorem dX9_hourIn_28 : decode cX9_hourIn 28 = .ok (.iconst 0, 1) := by decide +kernel
theorem dX9_hourIn_29 : decode cX9_hourIn 29 = .ok (.istore 4, 2) := by decide +kernel
theorem dX9_hourIn_31 : decode cX9_hourIn 31 = .ok (.aload_n 1, 1) := by decide +kernel
theorem dX9_hourIn_32 : decode cX9_hourIn 32 = .ok (.bipush 28, 2) := by decide +kernel
theorem dX9_hourIn_34 : decode cX9_hourIn 34 = .ok (.iload_n 3, 1) := by decide +kernel
theorem dX9_hourIn_35 : decode cX9_hourIn 35 = .ok (.iadd, 1) := by decide +kernel
theorem dX9_hourIn_36 : decode cX9_hourIn 36 = .ok (.dup2, 1) := by decide +kernel
theorem dX9_hourIn_37 : decode cX9_hourIn 37 = .ok (.iaload, 1) := by decide +kernel
theorem dX9_hourIn_38 : decode cX9_hourIn 38 = .ok (.aload_n 0, 1) := by decide +kernel
theorem dX9_hourIn_39 : decode cX9_hourIn 39 = .ok (.getfield 42, 3) := by decide +kernel
theorem dX9_hourIn_42 : decode cX9_hourIn 42 = .ok (.iload_n 3, 1) := by decide +kernel
theorem dX9_hourIn_43 : decode cX9_hourIn 43 = .ok (.iaload, 1) := by decide +kernel
theorem dX9_hourIn_44 : decode cX9_hourIn 44 = .ok (.bipush 12, 2) := by decide +kernel
theorem dX9_hourIn_46 : decode cX9_hourIn 46 = .ok (.if_icmp .ne 8, 3) := by decide +kernel
theorem dX9_hourIn_49 : decode cX9_hourIn 49 = .ok (.iload 4, 2) := by decide +kernel
theorem dX9_hourIn_51 : decode cX9_hourIn 51 = .ok (.goto 12, 3) := by decide +kernel
theorem dX9_hourIn_54 : decode cX9_hourIn 54 = .ok (.aload_n 1, 1) := by decide +kernel
theorem dX9_hourIn_55 : decode cX9_hourIn 55 = .ok (.bipush 13, 2) := by decide +kernel
theorem dX9_hourIn_57 : decode cX9_hourIn 57 = .ok (.iload_n 3, 1) := by decide +kernel
theorem dX9_hourIn_58 : decode cX9_hourIn 58 = .ok (.iadd, 1) := by decide +kernel
theorem dX9_hourIn_59 : decode cX9_hourIn 59 = .ok (.iaload, 1) := by decide +kernel
theorem dX9_hourIn_60 : decode cX9_hourIn 60 = .ok (.invokestatic 160, 3) := by decide +kernel
theorem dX9_hourIn_63 : decode cX9_hourIn 63 = .ok (.iadd, 1) := by decide +kernel
theorem dX9_hourIn_64 : decode cX9_hourIn 64 = .ok (.iastore, 1) := by decide +kernel
theorem dX9_hourIn_65 : decode cX9_hourIn 65 = .ok (.iinc 3 1, 3) := by decide +kernel
theorem dX9_hourIn_68 : decode cX9_hourIn 68 = .ok (.goto (-60), 3) := by decide +kernel
theorem dX9_hourIn_71 : decode cX9_hourIn 71 = .ok (.aload_n 1, 1) := by decide +kernel
theorem dX9_hourIn_72 : decode cX9_hourIn 72 = .ok (.iconst 0, 1) := by decide +kernel
theorem dX9_hourIn_73 : decode cX9_hourIn 73 = .ok (.dup2, 1) := by decide +kernel
theorem dX9_hourIn_74 : decode cX9_hourIn 74 = .ok (.iaload, 1) := by decide +kernel
theorem dX9_hourIn_75 : decode cX9_hourIn 75 = .ok (.iconst 1, 1) := by decide +kernel
theorem dX9_hourIn_76 : decode cX9_hourIn 76 = .ok (.iadd, 1) := by decide +kernel
theorem dX9_hourIn_77 : decode cX9_hourIn 77 = .ok (.iastore, 1) := by decide +kernel
theorem dX9_hourIn_78 : decode cX9_hourIn 78 = .ok (.iload_n 2, 1) := by decide +kernel
theorem dX9_hourIn_79 : decode cX9_hourIn 79 = .ok (.ireturn, 1) := by decide +kernel
def R_X9_hourIn (r1 : Nat) (σ : kS) (x : Int32) (τ : kS) : Prop := Run SM jX9_hourIn [(.ref 0), (.ref r1)] σ (some (.int x)) τ
def E_X9_hourIn_8 (r1 : Nat) (l2 : Int32) (l3 : Int32) (σ : kS) (x : Int32) (τ : kS) : Prop := Ex SM jX9_hourIn 8 [some (.ref 0), some (.ref r1), some (.int l2), some (.int l3), none] [] σ (some (.int x)) τ
def E_X9_hourIn_29 (r1 : Nat) (l2 : Int32) (l3 : Int32) (y0 : Int32) (σ : kS) (x : Int32) (τ : kS) : Prop := Ex SM jX9_hourIn 29 [some (.ref 0), some (.ref r1), some (.int l2), some (.int l3), none] [(.int y0)] σ (some (.int x)) τ
set_option maxRecDepth 20000 in
theorem t_X9_hourIn {r1 : Nat} {σ : kS} {x : Int32} {τ : kS} (hr1 : k_is SM r1 1 38 = true) (h : ∃ (x2 : Int32) (s1 : kS), R_X9_singAll r1 σ x2 s1 ∧ (E_X9_hourIn_8 r1 x2 (0 : Int32) s1 x τ)) : R_X9_hourIn r1 σ x τ := by
  refine x_run [some (.ref 0), some (.ref r1), none, none, none] (by decide +kernel) rfl (Nat.le_of_ble_eq_true rfl) ?_
  refine x_aload_n (pc := 0) 0 dX9_hourIn_0 rfl rfl ?_
  refine x_aload_n (pc := 1) 1 dX9_hourIn_1 rfl rfl ?_
  obtain ⟨x2, s1, hr, h⟩ := h
  refine x_callV (pc := 2) [(.ref r1)] [] dX9_hourIn_2 ⟨⟨hX9_singAll.1, hX9_singAll.2.1, hX9_singAll.2.2, by decide⟩, mX9_156, vX9_singAll.1, vX9_singAll.2⟩ (ci := 9) rfl rfl rfl rfl (Nat.le_of_ble_eq_true rfl) hr ?_
  refine x_istore_n (pc := 5) 2 dX9_hourIn_5 rfl (by decide) rfl ?_
  refine x_iconst (pc := 6) (0 : Int32) dX9_hourIn_6 (by decide +kernel) ?_
  refine x_istore_n (pc := 7) 3 dX9_hourIn_7 rfl (by decide) rfl ?_
  exact h
set_option maxRecDepth 20000 in
theorem t_X9_hourIn_8 {r1 : Nat} {l2 : Int32} {l3 : Int32} {σ : kS} {x : Int32} {τ : kS} (hr1 : k_is SM r1 1 38 = true) (h : ((σ.1 r1 3) ≤ l3 → x = l2 ∧ τ = (k_si σ r1 0 ((σ.1 r1 0) + (1 : Int32)))) ∧ (¬ (σ.1 r1 3) ≤ l3 → vp_in ((28 : Int32) + l3) 38 ∧ (((σ.1 r1 ((28 : Int32) + l3).toNatClampNeg) ≤ 0 → E_X9_hourIn_29 r1 l2 l3 (0 : Int32) σ x τ) ∧ (¬ (σ.1 r1 ((28 : Int32) + l3).toNatClampNeg) ≤ 0 → E_X9_hourIn_29 r1 l2 l3 (-1 : Int32) σ x τ)))) : E_X9_hourIn_8 r1 l2 l3 σ x τ := by
  unfold E_X9_hourIn_8
  refine x_iload_n (pc := 8) 3 dX9_hourIn_8 rfl rfl ?_
  refine x_aload_n (pc := 9) 1 dX9_hourIn_9 rfl rfl ?_
  refine x_iconst (pc := 10) (3 : Int32) dX9_hourIn_10 (by decide +kernel) ?_
  refine x_ialoadK (pc := 11) (n := 38) 3 dX9_hourIn_11 hr1 (by decide) (by decide +kernel) ?_
  refine x_icmp_ge (pc := 12) 71 dX9_hourIn_12 (by decide) (fun c1 => ?_) (fun c1 => ?_)
  · replace h := h.1 c1
    refine x_aload_n (pc := 71) 1 dX9_hourIn_71 rfl rfl ?_
    refine x_iconst (pc := 72) (0 : Int32) dX9_hourIn_72 (by decide +kernel) ?_
    refine x_dup2 (pc := 73) dX9_hourIn_73 rfl rfl ?_
    refine x_ialoadK (pc := 74) (n := 38) 0 dX9_hourIn_74 hr1 (by decide) (by decide +kernel) ?_
    refine x_iconst (pc := 75) (1 : Int32) dX9_hourIn_75 (by decide +kernel) ?_
    refine x_iadd (pc := 76) dX9_hourIn_76 ?_
    refine x_iastoreK (pc := 77) (n := 38) 0 dX9_hourIn_77 hr1 (by decide) (by decide +kernel) ?_
    refine x_iload_n (pc := 78) 2 dX9_hourIn_78 rfl rfl ?_
    exact x_ireturn2 (pc := 79) dX9_hourIn_79 rfl h.1 h.2
  · replace h := h.2 c1
    refine x_aload_n (pc := 15) 1 dX9_hourIn_15 rfl rfl ?_
    refine x_bipush (pc := 16) (28 : Int32) dX9_hourIn_16 (by decide +kernel) ?_
    refine x_iload_n (pc := 18) 3 dX9_hourIn_18 rfl rfl ?_
    refine x_iadd (pc := 19) dX9_hourIn_19 ?_
    obtain ⟨g2, h⟩ := h
    refine x_iaload (pc := 20) (n := 38) dX9_hourIn_20 hr1 g2 ?_
    refine x_if_le (pc := 21) 28 dX9_hourIn_21 (by decide) (fun c3 => ?_) (fun c3 => ?_)
    · replace h := h.1 c3
      refine x_iconst (pc := 28) (0 : Int32) dX9_hourIn_28 (by decide +kernel) ?_
      exact h
    · replace h := h.2 c3
      refine x_iconst (pc := 24) (-1 : Int32) dX9_hourIn_24 (by decide +kernel) ?_
      refine x_goto (pc := 25) 29 dX9_hourIn_25 (by decide) ?_
      exact h
set_option maxRecDepth 20000 in
theorem t_X9_hourIn_29 {r1 : Nat} {l2 : Int32} {l3 : Int32} {y0 : Int32} {σ : kS} {x : Int32} {τ : kS} (hr1 : k_is SM r1 1 38 = true) (h : vp_in ((28 : Int32) + l3) 38 ∧ (vp_in l3 5 ∧ ((¬ (σ.1 11 l3.toNatClampNeg) = (12 : Int32) → vp_in ((13 : Int32) + l3) 38 ∧ (∃ (x6 : Int32) (s5 : kS), R_X9_tires (σ.1 r1 ((13 : Int32) + l3).toNatClampNeg) σ x6 s5 ∧ (vp_in ((28 : Int32) + l3) 38 ∧ (E_X9_hourIn_8 r1 l2 (l3 + (1 : Int32)) (k_si s5 r1 ((28 : Int32) + l3).toNatClampNeg ((σ.1 r1 ((28 : Int32) + l3).toNatClampNeg) + x6)) x τ)))) ∧ ((σ.1 11 l3.toNatClampNeg) = (12 : Int32) → vp_in ((28 : Int32) + l3) 38 ∧ (E_X9_hourIn_8 r1 l2 (l3 + (1 : Int32)) (k_si σ r1 ((28 : Int32) + l3).toNatClampNeg ((σ.1 r1 ((28 : Int32) + l3).toNatClampNeg) + y0)) x τ))))) : E_X9_hourIn_29 r1 l2 l3 y0 σ x τ := by
  unfold E_X9_hourIn_29
  refine x_istore (pc := 29) dX9_hourIn_29 (by decide) rfl ?_
  refine x_aload_n (pc := 31) 1 dX9_hourIn_31 rfl rfl ?_
  refine x_bipush (pc := 32) (28 : Int32) dX9_hourIn_32 (by decide +kernel) ?_
  refine x_iload_n (pc := 34) 3 dX9_hourIn_34 rfl rfl ?_
  refine x_iadd (pc := 35) dX9_hourIn_35 ?_
  refine x_dup2 (pc := 36) dX9_hourIn_36 rfl rfl ?_
  obtain ⟨g1, h⟩ := h
  refine x_iaload (pc := 37) (n := 38) dX9_hourIn_37 hr1 g1 ?_
  refine x_aload_n (pc := 38) 0 dX9_hourIn_38 rfl rfl ?_
  refine x_getR (pc := 39) dX9_hourIn_39 fX9_42 rfl rfl ?_
  refine x_iload_n (pc := 42) 3 dX9_hourIn_42 rfl rfl ?_
  obtain ⟨g2, h⟩ := h
  refine x_iaload (pc := 43) (n := 5) dX9_hourIn_43 rfl g2 ?_
  refine x_bipush (pc := 44) (12 : Int32) dX9_hourIn_44 (by decide +kernel) ?_
  refine x_icmp_ne (pc := 46) 54 dX9_hourIn_46 (by decide) (fun c3 => ?_) (fun c3 => ?_)
  · replace h := h.1 c3
    refine x_aload_n (pc := 54) 1 dX9_hourIn_54 rfl rfl ?_
    refine x_bipush (pc := 55) (13 : Int32) dX9_hourIn_55 (by decide +kernel) ?_
    refine x_iload_n (pc := 57) 3 dX9_hourIn_57 rfl rfl ?_
    refine x_iadd (pc := 58) dX9_hourIn_58 ?_
    obtain ⟨g4, h⟩ := h
    refine x_iaload (pc := 59) (n := 38) dX9_hourIn_59 hr1 g4 ?_
    obtain ⟨x6, s5, hr, h⟩ := h
    refine x_callS (pc := 60) [(.int (σ.1 r1 ((13 : Int32) + l3).toNatClampNeg))] [(.int (σ.1 r1 ((28 : Int32) + l3).toNatClampNeg)), (.int ((28 : Int32) + l3)), (.ref r1)] dX9_hourIn_60 ⟨⟨hX9_tires.1, hX9_tires.2.1, hX9_tires.2.2, by decide⟩, mX9_160, sX9_tires⟩ rfl rfl (Nat.le_of_ble_eq_true rfl) hr ?_
    refine x_iadd (pc := 63) dX9_hourIn_63 ?_
    obtain ⟨g7, h⟩ := h
    refine x_iastore (pc := 64) (n := 38) dX9_hourIn_64 hr1 g7 ?_
    refine x_iinc (pc := 65) (1 : Int32) dX9_hourIn_65 (by decide) rfl rfl (by decide +kernel) ?_
    refine x_goto (pc := 68) 8 dX9_hourIn_68 (by decide) ?_
    exact x_mask [true, true, true, true, false] h
  · replace h := h.2 c3
    refine x_iload (pc := 49) dX9_hourIn_49 rfl ?_
    refine x_goto (pc := 51) 63 dX9_hourIn_51 (by decide) ?_
    refine x_iadd (pc := 63) dX9_hourIn_63 ?_
    obtain ⟨g8, h⟩ := h
    refine x_iastore (pc := 64) (n := 38) dX9_hourIn_64 hr1 g8 ?_
    refine x_iinc (pc := 65) (1 : Int32) dX9_hourIn_65 (by decide) rfl rfl (by decide +kernel) ?_
    refine x_goto (pc := 68) 8 dX9_hourIn_68 (by decide) ?_
    exact x_mask [true, true, true, true, false] h
theorem dX9_note_0 : decode cX9_note 0 = .ok (.aload_n 0, 1) := by decide +kernel
theorem dX9_note_1 : decode cX9_note 1 = .ok (.getfield 103, 3) := by decide +kernel
theorem dX9_note_4 : decode cX9_note 4 = .ok (.bipush 24, 2) := by decide +kernel
theorem dX9_note_6 : decode cX9_note 6 = .ok (.if_icmp .ne 30, 3) := by decide +kernel
theorem dX9_note_9 : decode cX9_note 9 = .ok (.aload_n 0, 1) := by decide +kernel
theorem dX9_note_10 : decode cX9_note 10 = .ok (.getfield 39, 3) := by decide +kernel
theorem dX9_note_13 : decode cX9_note 13 = .ok (.bipush 38, 2) := by decide +kernel
theorem dX9_note_15 : decode cX9_note 15 = .ok (.aload_n 0, 1) := by decide +kernel
theorem dX9_note_16 : decode cX9_note 16 = .ok (.getfield 39, 3) := by decide +kernel
theorem dX9_note_19 : decode cX9_note 19 = .ok (.iconst 0, 1) := by decide +kernel
theorem dX9_note_20 : decode cX9_note 20 = .ok (.sipush 874, 3) := by decide +kernel
theorem dX9_note_23 : decode cX9_note 23 = .ok (.invokestatic 99, 3) := by decide +kernel
theorem dX9_note_26 : decode cX9_note 26 = .ok (.aload_n 0, 1) := by decide +kernel
theorem dX9_note_27 : decode cX9_note 27 = .ok (.dup, 1) := by decide +kernel
theorem dX9_note_28 : decode cX9_note 28 = .ok (.getfield 103, 3) := by decide +kernel
theorem dX9_note_31 : decode cX9_note 31 = .ok (.iconst 1, 1) := by decide +kernel
theorem dX9_note_32 : decode cX9_note 32 = .ok (.isub, 1) := by decide +kernel
theorem dX9_note_33 : decode cX9_note 33 = .ok (.putfield 103, 3) := by decide +kernel
theorem dX9_note_36 : decode cX9_note 36 = .ok (.aload_n 0, 1) := by decide +kernel
theorem dX9_note_37 : decode cX9_note 37 = .ok (.getfield 23, 3) := by decide +kernel
theorem dX9_note_40 : decode cX9_note 40 = .ok (.iconst 0, 1) := by decide +kernel
theorem dX9_note_41 : decode cX9_note 41 = .ok (.aload_n 0, 1) := by decide +kernel
theorem dX9_note_42 : decode cX9_note 42 = .ok (.getfield 39, 3) := by decide +kernel
theorem dX9_note_45 : decode cX9_note 45 = .ok (.bipush 38, 2) := by decide +kernel
theorem dX9_note_47 : decode cX9_note 47 = .ok (.aload_n 0, 1) := by decide +kernel
theorem dX9_note_48 : decode cX9_note 48 = .ok (.getfield 103, 3) := by decide +kernel
theorem dX9_note_51 : decode cX9_note 51 = .ok (.imul, 1) := by decide +kernel
theorem dX9_note_52 : decode cX9_note 52 = .ok (.bipush 38, 2) := by decide +kernel
theorem dX9_note_54 : decode cX9_note 54 = .ok (.invokestatic 99, 3) := by decide +kernel
theorem dX9_note_57 : decode cX9_note 57 = .ok (.aload_n 0, 1) := by decide +kernel
theorem dX9_note_58 : decode cX9_note 58 = .ok (.dup, 1) := by decide +kernel
theorem dX9_note_59 : decode cX9_note 59 = .ok (.getfield 103, 3) := by decide +kernel
theorem dX9_note_62 : decode cX9_note 62 = .ok (.iconst 1, 1) := by decide +kernel
theorem dX9_note_63 : decode cX9_note 63 = .ok (.iadd, 1) := by decide +kernel
theorem dX9_note_64 : decode cX9_note 64 = .ok (.putfield 103, 3) := by decide +kernel
theorem dX9_note_67 : decode cX9_note 67 = .ok (.return_, 1) := by decide +kernel
def R_X9_note  (σ : kS) (τ : kS) : Prop := Run SM jX9_note [(.ref 0)] σ none τ
def E_X9_note_36  (σ : kS) (τ : kS) : Prop := Ex SM jX9_note 36 [some (.ref 0)] [] σ none τ
set_option maxRecDepth 20000 in
theorem t_X9_note  {σ : kS} {τ : kS}  (h : (¬ (σ.1 0 12) = (24 : Int32) → E_X9_note_36 σ τ) ∧ ((σ.1 0 12) = (24 : Int32) → ∃ s2 : kS, R_X9_bring 10 912 (38 : Int32) 10 912 (0 : Int32) (874 : Int32) σ s2 ∧ (E_X9_note_36 (k_si s2 0 12 ((s2.1 0 12) - (1 : Int32))) τ))) : R_X9_note  σ τ := by
  refine x_run [some (.ref 0)] (by decide +kernel) rfl (Nat.le_of_ble_eq_true rfl) ?_
  refine x_aload_n (pc := 0) 0 dX9_note_0 rfl rfl ?_
  refine x_getI (pc := 1) dX9_note_1 fX9_103 rfl rfl ?_
  refine x_bipush (pc := 4) (24 : Int32) dX9_note_4 (by decide +kernel) ?_
  refine x_icmp_ne (pc := 6) 36 dX9_note_6 (by decide) (fun c1 => ?_) (fun c1 => ?_)
  · replace h := h.1 c1
    exact h
  · replace h := h.2 c1
    refine x_aload_n (pc := 9) 0 dX9_note_9 rfl rfl ?_
    refine x_getR (pc := 10) dX9_note_10 fX9_39 rfl rfl ?_
    refine x_bipush (pc := 13) (38 : Int32) dX9_note_13 (by decide +kernel) ?_
    refine x_aload_n (pc := 15) 0 dX9_note_15 rfl rfl ?_
    refine x_getR (pc := 16) dX9_note_16 fX9_39 rfl rfl ?_
    refine x_iconst (pc := 19) (0 : Int32) dX9_note_19 (by decide +kernel) ?_
    refine x_sipush (pc := 20) (874 : Int32) dX9_note_20 (by decide +kernel) ?_
    obtain ⟨s2, hr, h⟩ := h
    refine x_callS (pc := 23) [(.ref 10), (.int (38 : Int32)), (.ref 10), (.int (0 : Int32)), (.int (874 : Int32))] [] dX9_note_23 ⟨⟨hX9_bring.1, hX9_bring.2.1, hX9_bring.2.2, by decide⟩, mX9_99, sX9_bring⟩ rfl rfl (Nat.le_of_ble_eq_true rfl) hr ?_
    refine x_aload_n (pc := 26) 0 dX9_note_26 rfl rfl ?_
    refine x_dup (pc := 27) dX9_note_27 rfl ?_
    refine x_getI (pc := 28) dX9_note_28 fX9_103 rfl rfl ?_
    refine x_iconst (pc := 31) (1 : Int32) dX9_note_31 (by decide +kernel) ?_
    refine x_isub (pc := 32) dX9_note_32 ?_
    refine x_putI (pc := 33) dX9_note_33 pX9_103 rfl rfl ?_
    exact h
set_option maxRecDepth 20000 in
theorem t_X9_note_36  {σ : kS} {τ : kS}  (h : ∃ s1 : kS, R_X9_bring 5 38 (0 : Int32) 10 912 ((38 : Int32) * (σ.1 0 12)) (38 : Int32) σ s1 ∧ (τ = (k_si s1 0 12 ((s1.1 0 12) + (1 : Int32))))) : E_X9_note_36  σ τ := by
  unfold E_X9_note_36
  refine x_aload_n (pc := 36) 0 dX9_note_36 rfl rfl ?_
  refine x_getR (pc := 37) dX9_note_37 fX9_23 rfl rfl ?_
  refine x_iconst (pc := 40) (0 : Int32) dX9_note_40 (by decide +kernel) ?_
  refine x_aload_n (pc := 41) 0 dX9_note_41 rfl rfl ?_
  refine x_getR (pc := 42) dX9_note_42 fX9_39 rfl rfl ?_
  refine x_bipush (pc := 45) (38 : Int32) dX9_note_45 (by decide +kernel) ?_
  refine x_aload_n (pc := 47) 0 dX9_note_47 rfl rfl ?_
  refine x_getI (pc := 48) dX9_note_48 fX9_103 rfl rfl ?_
  refine x_imul (pc := 51) dX9_note_51 ?_
  refine x_bipush (pc := 52) (38 : Int32) dX9_note_52 (by decide +kernel) ?_
  obtain ⟨s1, hr, h⟩ := h
  refine x_callS (pc := 54) [(.ref 5), (.int (0 : Int32)), (.ref 10), (.int ((38 : Int32) * (σ.1 0 12))), (.int (38 : Int32))] [] dX9_note_54 ⟨⟨hX9_bring.1, hX9_bring.2.1, hX9_bring.2.2, by decide⟩, mX9_99, sX9_bring⟩ rfl rfl (Nat.le_of_ble_eq_true rfl) hr ?_
  refine x_aload_n (pc := 57) 0 dX9_note_57 rfl rfl ?_
  refine x_dup (pc := 58) dX9_note_58 rfl ?_
  refine x_getI (pc := 59) dX9_note_59 fX9_103 rfl rfl ?_
  refine x_iconst (pc := 62) (1 : Int32) dX9_note_62 (by decide +kernel) ?_
  refine x_iadd (pc := 63) dX9_note_63 ?_
  refine x_putI (pc := 64) dX9_note_64 pX9_103 rfl rfl ?_
  exact x_return2 (pc := 67) dX9_note_67 rfl h
theorem dX9_hour_0 : decode cX9_hour 0 = .ok (.aload_n 0, 1) := by decide +kernel
theorem dX9_hour_1 : decode cX9_hour 1 = .ok (.invokevirtual 110, 3) := by decide +kernel
theorem dX9_hour_4 : decode cX9_hour 4 = .ok (.ifCond .eq 15, 3) := by decide +kernel
theorem dX9_hour_7 : decode cX9_hour 7 = .ok (.aload_n 0, 1) := by decide +kernel
theorem dX9_hour_8 : decode cX9_hour 8 = .ok (.getfield 23, 3) := by decide +kernel
theorem dX9_hour_11 : decode cX9_hour 11 = .ok (.iconst 0, 1) := by decide +kernel
theorem dX9_hour_12 : decode cX9_hour 12 = .ok (.iaload, 1) := by decide +kernel
theorem dX9_hour_13 : decode cX9_hour 13 = .ok (.sipush 9999, 3) := by decide +kernel
theorem dX9_hour_16 : decode cX9_hour 16 = .ok (.if_icmp .ne 6, 3) := by decide +kernel
theorem dX9_hour_19 : decode cX9_hour 19 = .ok (.bipush (-2), 2) := by decide +kernel
theorem dX9_hour_21 : decode cX9_hour 21 = .ok (.ireturn, 1) := by decide +kernel
theorem dX9_hour_22 : decode cX9_hour 22 = .ok (.aload_n 0, 1) := by decide +kernel
theorem dX9_hour_23 : decode cX9_hour 23 = .ok (.invokevirtual 163, 3) := by decide +kernel
theorem dX9_hour_26 : decode cX9_hour 26 = .ok (.aload_n 0, 1) := by decide +kernel
theorem dX9_hour_27 : decode cX9_hour 27 = .ok (.aload_n 0, 1) := by decide +kernel
theorem dX9_hour_28 : decode cX9_hour 28 = .ok (.getfield 23, 3) := by decide +kernel
theorem dX9_hour_31 : decode cX9_hour 31 = .ok (.invokevirtual 166, 3) := by decide +kernel
theorem dX9_hour_34 : decode cX9_hour 34 = .ok (.ireturn, 1) := by decide +kernel
def R_X9_hour  (σ : kS) (x : Int32) (τ : kS) : Prop := Run SM jX9_hour [(.ref 0)] σ (some (.int x)) τ
set_option maxRecDepth 20000 in
theorem t_X9_hour  {σ : kS} {x : Int32} {τ : kS}  (h : (¬ (0 < (σ.1 5 1)) → x = (-2 : Int32) ∧ τ = σ) ∧ ((0 < (σ.1 5 1)) → (¬ (σ.1 5 0) = (9999 : Int32) → ∃ s3 : kS, R_X9_note  σ s3 ∧ (∃ (x5 : Int32) (s4 : kS), R_X9_hourIn 5 s3 x5 s4 ∧ (x = x5 ∧ τ = s4))) ∧ ((σ.1 5 0) = (9999 : Int32) → x = (-2 : Int32) ∧ τ = σ))) : R_X9_hour  σ x τ := by
  refine x_run [some (.ref 0)] (by decide +kernel) rfl (Nat.le_of_ble_eq_true rfl) ?_
  refine x_aload_n (pc := 0) 0 dX9_hour_0 rfl rfl ?_
  refine x_callV (pc := 1) [] [] dX9_hour_1 ⟨⟨hX9_isThere.1, hX9_isThere.2.1, hX9_isThere.2.2, by decide⟩, mX9_110, vX9_isThere.1, vX9_isThere.2⟩ (ci := 9) rfl rfl rfl rfl (Nat.le_of_ble_eq_true rfl) (i_X9_isThere) ?_
  refine x_bif_eq (pc := 4) 19 dX9_hour_4 (by decide) (fun c1 => ?_) (fun c1 => ?_)
  · replace h := h.1 c1
    refine x_bipush (pc := 19) (-2 : Int32) dX9_hour_19 (by decide +kernel) ?_
    exact x_ireturn2 (pc := 21) dX9_hour_21 rfl h.1 h.2
  · replace h := h.2 c1
    refine x_aload_n (pc := 7) 0 dX9_hour_7 rfl rfl ?_
    refine x_getR (pc := 8) dX9_hour_8 fX9_23 rfl rfl ?_
    refine x_iconst (pc := 11) (0 : Int32) dX9_hour_11 (by decide +kernel) ?_
    refine x_ialoadK (pc := 12) (n := 38) 0 dX9_hour_12 rfl (by decide) (by decide +kernel) ?_
    refine x_sipush (pc := 13) (9999 : Int32) dX9_hour_13 (by decide +kernel) ?_
    refine x_icmp_ne (pc := 16) 22 dX9_hour_16 (by decide) (fun c2 => ?_) (fun c2 => ?_)
    · replace h := h.1 c2
      refine x_aload_n (pc := 22) 0 dX9_hour_22 rfl rfl ?_
      obtain ⟨s3, hr, h⟩ := h
      refine x_callV (pc := 23) [] [] dX9_hour_23 ⟨⟨hX9_note.1, hX9_note.2.1, hX9_note.2.2, by decide⟩, mX9_163, vX9_note.1, vX9_note.2⟩ (ci := 9) rfl rfl rfl rfl (Nat.le_of_ble_eq_true rfl) hr ?_
      refine x_aload_n (pc := 26) 0 dX9_hour_26 rfl rfl ?_
      refine x_aload_n (pc := 27) 0 dX9_hour_27 rfl rfl ?_
      refine x_getR (pc := 28) dX9_hour_28 fX9_23 rfl rfl ?_
      obtain ⟨x5, s4, hr, h⟩ := h
      refine x_callV (pc := 31) [(.ref 5)] [] dX9_hour_31 ⟨⟨hX9_hourIn.1, hX9_hourIn.2.1, hX9_hourIn.2.2, by decide⟩, mX9_166, vX9_hourIn.1, vX9_hourIn.2⟩ (ci := 9) rfl rfl rfl rfl (Nat.le_of_ble_eq_true rfl) hr ?_
      exact x_ireturn2 (pc := 34) dX9_hour_34 rfl h.1 h.2
    · replace h := h.2 c2
      refine x_bipush (pc := 19) (-2 : Int32) dX9_hour_19 (by decide +kernel) ?_
      exact x_ireturn2 (pc := 21) dX9_hour_21 rfl h.1 h.2
theorem dX9_send_0 : decode cX9_send 0 = .ok (.aload_n 0, 1) := by decide +kernel
theorem dX9_send_1 : decode cX9_send 1 = .ok (.iload_n 1, 1) := by decide +kernel
theorem dX9_send_2 : decode cX9_send 2 = .ok (.invokevirtual 130, 3) := by decide +kernel
theorem dX9_send_5 : decode cX9_send 5 = .ok (.ifCond .eq 16, 3) := by decide +kernel
theorem dX9_send_8 : decode cX9_send 8 = .ok (.iload_n 2, 1) := by decide +kernel
theorem dX9_send_9 : decode cX9_send 9 = .ok (.iconst (-1), 1) := by decide +kernel
theorem dX9_send_10 : decode cX9_send 10 = .ok (.if_icmp .eq 13, 3) := by decide +kernel
theorem dX9_send_13 : decode cX9_send 13 = .ok (.aload_n 0, 1) := by decide +kernel
theorem dX9_send_14 : decode cX9_send 14 = .ok (.iload_n 2, 1) := by decide +kernel
theorem dX9_send_15 : decode cX9_send 15 = .ok (.invokevirtual 121, 3) := by decide +kernel
theorem dX9_send_18 : decode cX9_send 18 = .ok (.ifCond .ne 5, 3) := by decide +kernel
theorem dX9_send_21 : decode cX9_send 21 = .ok (.iconst (-1), 1) := by decide +kernel
theorem dX9_send_22 : decode cX9_send 22 = .ok (.ireturn, 1) := by decide +kernel
theorem dX9_send_23 : decode cX9_send 23 = .ok (.aload_n 0, 1) := by decide +kernel
theorem dX9_send_24 : decode cX9_send 24 = .ok (.getfield 23, 3) := by decide +kernel
theorem dX9_send_27 : decode cX9_send 27 = .ok (.bipush 33, 2) := by decide +kernel
theorem dX9_send_29 : decode cX9_send 29 = .ok (.iload_n 1, 1) := by decide +kernel
theorem dX9_send_30 : decode cX9_send 30 = .ok (.iadd, 1) := by decide +kernel
theorem dX9_send_31 : decode cX9_send 31 = .ok (.iaload, 1) := by decide +kernel
theorem dX9_send_32 : decode cX9_send 32 = .ok (.istore_n 3, 1) := by decide +kernel
theorem dX9_send_33 : decode cX9_send 33 = .ok (.iload_n 2, 1) := by decide +kernel
theorem dX9_send_34 : decode cX9_send 34 = .ok (.iconst (-1), 1) := by decide +kernel
theorem dX9_send_35 : decode cX9_send 35 = .ok (.if_icmp .ne 8, 3) := by decide +kernel
theorem dX9_send_38 : decode cX9_send 38 = .ok (.bipush (-4), 2) := by decide +kernel
theorem dX9_send_40 : decode cX9_send 40 = .ok (.goto 4, 3) := by decide +kernel
theorem dX9_send_43 : decode cX9_send 43 = .ok (.iload_n 2, 1) := by decide +kernel
theorem dX9_send_44 : decode cX9_send 44 = .ok (.istore 4, 2) := by decide +kernel
theorem dX9_send_46 : decode cX9_send 46 = .ok (.iload_n 3, 1) := by decide +kernel
theorem dX9_send_47 : decode cX9_send 47 = .ok (.iload 4, 2) := by decide +kernel
theorem dX9_send_49 : decode cX9_send 49 = .ok (.if_icmp .ne 6, 3) := by decide +kernel
theorem dX9_send_52 : decode cX9_send 52 = .ok (.bipush (-2), 2) := by decide +kernel
theorem dX9_send_54 : decode cX9_send 54 = .ok (.ireturn, 1) := by decide +kernel
theorem dX9_send_55 : decode cX9_send 55 = .ok (.aload_n 0, 1) := by decide +kernel
theorem dX9_send_56 : decode cX9_send 56 = .ok (.invokevirtual 163, 3) := by decide +kernel
theorem dX9_send_59 : decode cX9_send 59 = .ok (.aload_n 0, 1) := by decide +kernel
theorem dX9_send_60 : decode cX9_send 60 = .ok (.getfield 23, 3) := by decide +kernel
theorem dX9_send_63 : decode cX9_send 63 = .ok (.bipush 33, 2) := by decide +kernel
theorem dX9_send_65 : decode cX9_send 65 = .ok (.iload_n 1, 1) := by decide +kernel
theorem dX9_send_66 : decode cX9_send 66 = .ok (.iadd, 1) := by decide +kernel
theorem dX9_send_67 : decode cX9_send 67 = .ok (.iload 4, 2) := by decide +kernel
theorem dX9_send_69 : decode cX9_send 69 = .ok (.iastore, 1) := by decide +kernel
theorem dX9_send_70 : decode cX9_send 70 = .ok (.iload_n 3, 1) := by decide +kernel
theorem dX9_send_71 : decode cX9_send 71 = .ok (.ireturn, 1) := by decide +kernel
def R_X9_send (a1 : Int32) (a2 : Int32) (σ : kS) (x : Int32) (τ : kS) : Prop := Run SM jX9_send [(.ref 0), (.int a1), (.int a2)] σ (some (.int x)) τ
def E_X9_send_23 (l1 : Int32) (l2 : Int32) (σ : kS) (x : Int32) (τ : kS) : Prop := Ex SM jX9_send 23 [some (.ref 0), some (.int l1), some (.int l2), none, none] [] σ (some (.int x)) τ
def E_X9_send_44 (l1 : Int32) (l3 : Int32) (y0 : Int32) (σ : kS) (x : Int32) (τ : kS) : Prop := Ex SM jX9_send 44 [some (.ref 0), some (.int l1), none, some (.int l3), none] [(.int y0)] σ (some (.int x)) τ
set_option maxRecDepth 20000 in
theorem t_X9_send {a1 : Int32} {a2 : Int32} {σ : kS} {x : Int32} {τ : kS}  (h : (¬ (iv a1 0 ((σ.1 5 3) - 1)) → x = (-1 : Int32) ∧ τ = σ) ∧ ((iv a1 0 ((σ.1 5 3) - 1)) → (a2 = (-1 : Int32) → E_X9_send_23 a1 a2 σ x τ) ∧ (¬ a2 = (-1 : Int32) → ((iv a2 0 ((σ.1 5 2) - 1)) → E_X9_send_23 a1 a2 σ x τ) ∧ (¬ (iv a2 0 ((σ.1 5 2) - 1)) → x = (-1 : Int32) ∧ τ = σ)))) : R_X9_send a1 a2 σ x τ := by
  refine x_run [some (.ref 0), some (.int a1), some (.int a2), none, none] (by decide +kernel) rfl (Nat.le_of_ble_eq_true rfl) ?_
  refine x_aload_n (pc := 0) 0 dX9_send_0 rfl rfl ?_
  refine x_iload_n (pc := 1) 1 dX9_send_1 rfl rfl ?_
  refine x_callV (pc := 2) [(.int a1)] [] dX9_send_2 ⟨⟨hX9_isOne.1, hX9_isOne.2.1, hX9_isOne.2.2, by decide⟩, mX9_130, vX9_isOne.1, vX9_isOne.2⟩ (ci := 9) rfl rfl rfl rfl (Nat.le_of_ble_eq_true rfl) (i_X9_isOne) ?_
  refine x_bif_eq (pc := 5) 21 dX9_send_5 (by decide) (fun c1 => ?_) (fun c1 => ?_)
  · replace h := h.1 c1
    refine x_iconst (pc := 21) (-1 : Int32) dX9_send_21 (by decide +kernel) ?_
    exact x_ireturn2 (pc := 22) dX9_send_22 rfl h.1 h.2
  · replace h := h.2 c1
    refine x_iload_n (pc := 8) 2 dX9_send_8 rfl rfl ?_
    refine x_iconst (pc := 9) (-1 : Int32) dX9_send_9 (by decide +kernel) ?_
    refine x_icmp_eq (pc := 10) 23 dX9_send_10 (by decide) (fun c2 => ?_) (fun c2 => ?_)
    · replace h := h.1 c2
      exact h
    · replace h := h.2 c2
      refine x_aload_n (pc := 13) 0 dX9_send_13 rfl rfl ?_
      refine x_iload_n (pc := 14) 2 dX9_send_14 rfl rfl ?_
      refine x_callV (pc := 15) [(.int a2)] [] dX9_send_15 ⟨⟨hX9_isField.1, hX9_isField.2.1, hX9_isField.2.2, by decide⟩, mX9_121, vX9_isField.1, vX9_isField.2⟩ (ci := 9) rfl rfl rfl rfl (Nat.le_of_ble_eq_true rfl) (i_X9_isField) ?_
      refine x_bif_ne (pc := 18) 23 dX9_send_18 (by decide) (fun c3 => ?_) (fun c3 => ?_)
      · replace h := h.1 c3
        exact h
      · replace h := h.2 c3
        refine x_iconst (pc := 21) (-1 : Int32) dX9_send_21 (by decide +kernel) ?_
        exact x_ireturn2 (pc := 22) dX9_send_22 rfl h.1 h.2
set_option maxRecDepth 20000 in
theorem t_X9_send_23 {l1 : Int32} {l2 : Int32} {σ : kS} {x : Int32} {τ : kS}  (h : vp_in ((33 : Int32) + l1) 38 ∧ ((¬ l2 = (-1 : Int32) → E_X9_send_44 l1 (σ.1 5 ((33 : Int32) + l1).toNatClampNeg) l2 σ x τ) ∧ (l2 = (-1 : Int32) → E_X9_send_44 l1 (σ.1 5 ((33 : Int32) + l1).toNatClampNeg) (-4 : Int32) σ x τ))) : E_X9_send_23 l1 l2 σ x τ := by
  unfold E_X9_send_23
  refine x_aload_n (pc := 23) 0 dX9_send_23 rfl rfl ?_
  refine x_getR (pc := 24) dX9_send_24 fX9_23 rfl rfl ?_
  refine x_bipush (pc := 27) (33 : Int32) dX9_send_27 (by decide +kernel) ?_
  refine x_iload_n (pc := 29) 1 dX9_send_29 rfl rfl ?_
  refine x_iadd (pc := 30) dX9_send_30 ?_
  obtain ⟨g1, h⟩ := h
  refine x_iaload (pc := 31) (n := 38) dX9_send_31 rfl g1 ?_
  refine x_istore_n (pc := 32) 3 dX9_send_32 rfl (by decide) rfl ?_
  refine x_iload_n (pc := 33) 2 dX9_send_33 rfl rfl ?_
  refine x_iconst (pc := 34) (-1 : Int32) dX9_send_34 (by decide +kernel) ?_
  refine x_icmp_ne (pc := 35) 43 dX9_send_35 (by decide) (fun c2 => ?_) (fun c2 => ?_)
  · replace h := h.1 c2
    refine x_iload_n (pc := 43) 2 dX9_send_43 rfl rfl ?_
    exact x_mask [true, true, false, true, false] h
  · replace h := h.2 c2
    refine x_bipush (pc := 38) (-4 : Int32) dX9_send_38 (by decide +kernel) ?_
    refine x_goto (pc := 40) 44 dX9_send_40 (by decide) ?_
    exact x_mask [true, true, false, true, false] h
set_option maxRecDepth 20000 in
theorem t_X9_send_44 {l1 : Int32} {l3 : Int32} {y0 : Int32} {σ : kS} {x : Int32} {τ : kS}  (h : (¬ l3 = y0 → ∃ s2 : kS, R_X9_note  σ s2 ∧ (vp_in ((33 : Int32) + l1) 38 ∧ (x = l3 ∧ τ = (k_si s2 5 ((33 : Int32) + l1).toNatClampNeg y0)))) ∧ (l3 = y0 → x = (-2 : Int32) ∧ τ = σ)) : E_X9_send_44 l1 l3 y0 σ x τ := by
  unfold E_X9_send_44
  refine x_istore (pc := 44) dX9_send_44 (by decide) rfl ?_
  refine x_iload_n (pc := 46) 3 dX9_send_46 rfl rfl ?_
  refine x_iload (pc := 47) dX9_send_47 rfl ?_
  refine x_icmp_ne (pc := 49) 55 dX9_send_49 (by decide) (fun c1 => ?_) (fun c1 => ?_)
  · replace h := h.1 c1
    refine x_aload_n (pc := 55) 0 dX9_send_55 rfl rfl ?_
    obtain ⟨s2, hr, h⟩ := h
    refine x_callV (pc := 56) [] [] dX9_send_56 ⟨⟨hX9_note.1, hX9_note.2.1, hX9_note.2.2, by decide⟩, mX9_163, vX9_note.1, vX9_note.2⟩ (ci := 9) rfl rfl rfl rfl (Nat.le_of_ble_eq_true rfl) hr ?_
    refine x_aload_n (pc := 59) 0 dX9_send_59 rfl rfl ?_
    refine x_getR (pc := 60) dX9_send_60 fX9_23 rfl rfl ?_
    refine x_bipush (pc := 63) (33 : Int32) dX9_send_63 (by decide +kernel) ?_
    refine x_iload_n (pc := 65) 1 dX9_send_65 rfl rfl ?_
    refine x_iadd (pc := 66) dX9_send_66 ?_
    refine x_iload (pc := 67) dX9_send_67 rfl ?_
    obtain ⟨g3, h⟩ := h
    refine x_iastore (pc := 69) (n := 38) dX9_send_69 rfl g3 ?_
    refine x_iload_n (pc := 70) 3 dX9_send_70 rfl rfl ?_
    exact x_ireturn2 (pc := 71) dX9_send_71 rfl h.1 h.2
  · replace h := h.2 c1
    refine x_bipush (pc := 52) (-2 : Int32) dX9_send_52 (by decide +kernel) ?_
    exact x_ireturn2 (pc := 54) dX9_send_54 rfl h.1 h.2
theorem dX9_turn_0 : decode cX9_turn 0 = .ok (.iconst 1, 1) := by decide +kernel
theorem dX9_turn_1 : decode cX9_turn 1 = .ok (.iload_n 2, 1) := by decide +kernel
theorem dX9_turn_2 : decode cX9_turn 2 = .ok (.ishl, 1) := by decide +kernel
theorem dX9_turn_3 : decode cX9_turn 3 = .ok (.istore_n 3, 1) := by decide +kernel
theorem dX9_turn_4 : decode cX9_turn 4 = .ok (.aload_n 0, 1) := by decide +kernel
theorem dX9_turn_5 : decode cX9_turn 5 = .ok (.bipush 8, 2) := by decide +kernel
theorem dX9_turn_7 : decode cX9_turn 7 = .ok (.iload_n 1, 1) := by decide +kernel
theorem dX9_turn_8 : decode cX9_turn 8 = .ok (.iadd, 1) := by decide +kernel
theorem dX9_turn_9 : decode cX9_turn 9 = .ok (.aload_n 0, 1) := by decide +kernel
theorem dX9_turn_10 : decode cX9_turn 10 = .ok (.bipush 8, 2) := by decide +kernel
theorem dX9_turn_12 : decode cX9_turn 12 = .ok (.iload_n 1, 1) := by decide +kernel
theorem dX9_turn_13 : decode cX9_turn 13 = .ok (.iadd, 1) := by decide +kernel
theorem dX9_turn_14 : decode cX9_turn 14 = .ok (.iaload, 1) := by decide +kernel
theorem dX9_turn_15 : decode cX9_turn 15 = .ok (.iload_n 2, 1) := by decide +kernel
theorem dX9_turn_16 : decode cX9_turn 16 = .ok (.invokestatic 133, 3) := by decide +kernel
theorem dX9_turn_19 : decode cX9_turn 19 = .ok (.ifCond .eq 14, 3) := by decide +kernel
theorem dX9_turn_22 : decode cX9_turn 22 = .ok (.aload_n 0, 1) := by decide +kernel
theorem dX9_turn_23 : decode cX9_turn 23 = .ok (.bipush 8, 2) := by decide +kernel
theorem dX9_turn_25 : decode cX9_turn 25 = .ok (.iload_n 1, 1) := by decide +kernel
theorem dX9_turn_26 : decode cX9_turn 26 = .ok (.iadd, 1) := by decide +kernel
theorem dX9_turn_27 : decode cX9_turn 27 = .ok (.iaload, 1) := by decide +kernel
theorem dX9_turn_28 : decode cX9_turn 28 = .ok (.iload_n 3, 1) := by decide +kernel
theorem dX9_turn_29 : decode cX9_turn 29 = .ok (.isub, 1) := by decide +kernel
theorem dX9_turn_30 : decode cX9_turn 30 = .ok (.goto 11, 3) := by decide +kernel
theorem dX9_turn_33 : decode cX9_turn 33 = .ok (.aload_n 0, 1) := by decide +kernel
theorem dX9_turn_34 : decode cX9_turn 34 = .ok (.bipush 8, 2) := by decide +kernel
theorem dX9_turn_36 : decode cX9_turn 36 = .ok (.iload_n 1, 1) := by decide +kernel
theorem dX9_turn_37 : decode cX9_turn 37 = .ok (.iadd, 1) := by decide +kernel
theorem dX9_turn_38 : decode cX9_turn 38 = .ok (.iaload, 1) := by decide +kernel
theorem dX9_turn_39 : decode cX9_turn 39 = .ok (.iload_n 3, 1) := by decide +kernel
theorem dX9_turn_40 : decode cX9_turn 40 = .ok (.iadd, 1) := by decide +kernel
theorem dX9_turn_41 : decode cX9_turn 41 = .ok (.iastore, 1) := by decide +kernel
theorem dX9_turn_42 : decode cX9_turn 42 = .ok (.return_, 1) := by decide +kernel
def R_X9_turn (r0 : Nat) (a1 : Int32) (a2 : Int32) (σ : kS) (τ : kS) : Prop := Run SM jX9_turn [(.ref r0), (.int a1), (.int a2)] σ none τ
set_option maxRecDepth 20000 in
theorem t_X9_turn {r0 : Nat} {a1 : Int32} {a2 : Int32} {σ : kS} {τ : kS} (hr0 : k_is SM r0 1 38 = true) (h : vp_in ((8 : Int32) + a1) 38 ∧ ((¬ (hs (σ.1 r0 ((8 : Int32) + a1).toNatClampNeg) a2) → vp_in ((8 : Int32) + a1) 38 ∧ (vp_in ((8 : Int32) + a1) 38 ∧ (τ = (k_si σ r0 ((8 : Int32) + a1).toNatClampNeg ((σ.1 r0 ((8 : Int32) + a1).toNatClampNeg) + ((1 : Int32) <<< (a2 &&& 31))))))) ∧ ((hs (σ.1 r0 ((8 : Int32) + a1).toNatClampNeg) a2) → vp_in ((8 : Int32) + a1) 38 ∧ (vp_in ((8 : Int32) + a1) 38 ∧ (τ = (k_si σ r0 ((8 : Int32) + a1).toNatClampNeg ((σ.1 r0 ((8 : Int32) + a1).toNatClampNeg) - ((1 : Int32) <<< (a2 &&& 31))))))))) : R_X9_turn r0 a1 a2 σ τ := by
  refine x_run [some (.ref r0), some (.int a1), some (.int a2), none] (by decide +kernel) rfl (Nat.le_of_ble_eq_true rfl) ?_
  refine x_iconst (pc := 0) (1 : Int32) dX9_turn_0 (by decide +kernel) ?_
  refine x_iload_n (pc := 1) 2 dX9_turn_1 rfl rfl ?_
  refine x_ishl (pc := 2) dX9_turn_2 ?_
  refine x_istore_n (pc := 3) 3 dX9_turn_3 rfl (by decide) rfl ?_
  refine x_aload_n (pc := 4) 0 dX9_turn_4 rfl rfl ?_
  refine x_bipush (pc := 5) (8 : Int32) dX9_turn_5 (by decide +kernel) ?_
  refine x_iload_n (pc := 7) 1 dX9_turn_7 rfl rfl ?_
  refine x_iadd (pc := 8) dX9_turn_8 ?_
  refine x_aload_n (pc := 9) 0 dX9_turn_9 rfl rfl ?_
  refine x_bipush (pc := 10) (8 : Int32) dX9_turn_10 (by decide +kernel) ?_
  refine x_iload_n (pc := 12) 1 dX9_turn_12 rfl rfl ?_
  refine x_iadd (pc := 13) dX9_turn_13 ?_
  obtain ⟨g1, h⟩ := h
  refine x_iaload (pc := 14) (n := 38) dX9_turn_14 hr0 g1 ?_
  refine x_iload_n (pc := 15) 2 dX9_turn_15 rfl rfl ?_
  refine x_callS (pc := 16) [(.int (σ.1 r0 ((8 : Int32) + a1).toNatClampNeg)), (.int a2)] [(.int ((8 : Int32) + a1)), (.ref r0)] dX9_turn_16 ⟨⟨hX9_has.1, hX9_has.2.1, hX9_has.2.2, by decide⟩, mX9_133, sX9_has⟩ rfl rfl (Nat.le_of_ble_eq_true rfl) (i_X9_has) ?_
  refine x_bif_eq (pc := 19) 33 dX9_turn_19 (by decide) (fun c2 => ?_) (fun c2 => ?_)
  · replace h := h.1 c2
    refine x_aload_n (pc := 33) 0 dX9_turn_33 rfl rfl ?_
    refine x_bipush (pc := 34) (8 : Int32) dX9_turn_34 (by decide +kernel) ?_
    refine x_iload_n (pc := 36) 1 dX9_turn_36 rfl rfl ?_
    refine x_iadd (pc := 37) dX9_turn_37 ?_
    obtain ⟨g3, h⟩ := h
    refine x_iaload (pc := 38) (n := 38) dX9_turn_38 hr0 g3 ?_
    refine x_iload_n (pc := 39) 3 dX9_turn_39 rfl rfl ?_
    refine x_iadd (pc := 40) dX9_turn_40 ?_
    obtain ⟨g4, h⟩ := h
    refine x_iastore (pc := 41) (n := 38) dX9_turn_41 hr0 g4 ?_
    exact x_return2 (pc := 42) dX9_turn_42 rfl h
  · replace h := h.2 c2
    refine x_aload_n (pc := 22) 0 dX9_turn_22 rfl rfl ?_
    refine x_bipush (pc := 23) (8 : Int32) dX9_turn_23 (by decide +kernel) ?_
    refine x_iload_n (pc := 25) 1 dX9_turn_25 rfl rfl ?_
    refine x_iadd (pc := 26) dX9_turn_26 ?_
    obtain ⟨g5, h⟩ := h
    refine x_iaload (pc := 27) (n := 38) dX9_turn_27 hr0 g5 ?_
    refine x_iload_n (pc := 28) 3 dX9_turn_28 rfl rfl ?_
    refine x_isub (pc := 29) dX9_turn_29 ?_
    refine x_goto (pc := 30) 41 dX9_turn_30 (by decide) ?_
    obtain ⟨g6, h⟩ := h
    refine x_iastore (pc := 41) (n := 38) dX9_turn_41 hr0 g6 ?_
    exact x_return2 (pc := 42) dX9_turn_42 rfl h
theorem dX9_sound_0 : decode cX9_sound 0 = .ok (.aload_n 0, 1) := by decide +kernel
theorem dX9_sound_1 : decode cX9_sound 1 = .ok (.iload_n 1, 1) := by decide +kernel
theorem dX9_sound_2 : decode cX9_sound 2 = .ok (.invokevirtual 121, 3) := by decide +kernel
theorem dX9_sound_5 : decode cX9_sound 5 = .ok (.ifCond .eq 13, 3) := by decide +kernel
theorem dX9_sound_8 : decode cX9_sound 8 = .ok (.iload_n 2, 1) := by decide +kernel
theorem dX9_sound_9 : decode cX9_sound 9 = .ok (.iconst 0, 1) := by decide +kernel
theorem dX9_sound_10 : decode cX9_sound 10 = .ok (.bipush 11, 2) := by decide +kernel
theorem dX9_sound_12 : decode cX9_sound 12 = .ok (.invokestatic 54, 3) := by decide +kernel
theorem dX9_sound_15 : decode cX9_sound 15 = .ok (.ifCond .ne 5, 3) := by decide +kernel
theorem dX9_sound_18 : decode cX9_sound 18 = .ok (.iconst (-1), 1) := by decide +kernel
theorem dX9_sound_19 : decode cX9_sound 19 = .ok (.ireturn, 1) := by decide +kernel
theorem dX9_sound_20 : decode cX9_sound 20 = .ok (.aload_n 0, 1) := by decide +kernel
theorem dX9_sound_21 : decode cX9_sound 21 = .ok (.invokevirtual 163, 3) := by decide +kernel
theorem dX9_sound_24 : decode cX9_sound 24 = .ok (.aload_n 0, 1) := by decide +kernel
theorem dX9_sound_25 : decode cX9_sound 25 = .ok (.getfield 23, 3) := by decide +kernel
theorem dX9_sound_28 : decode cX9_sound 28 = .ok (.iload_n 1, 1) := by decide +kernel
theorem dX9_sound_29 : decode cX9_sound 29 = .ok (.iload_n 2, 1) := by decide +kernel
theorem dX9_sound_30 : decode cX9_sound 30 = .ok (.invokestatic 169, 3) := by decide +kernel
theorem dX9_sound_33 : decode cX9_sound 33 = .ok (.aload_n 0, 1) := by decide +kernel
theorem dX9_sound_34 : decode cX9_sound 34 = .ok (.getfield 23, 3) := by decide +kernel
theorem dX9_sound_37 : decode cX9_sound 37 = .ok (.bipush 8, 2) := by decide +kernel
theorem dX9_sound_39 : decode cX9_sound 39 = .ok (.iload_n 1, 1) := by decide +kernel
theorem dX9_sound_40 : decode cX9_sound 40 = .ok (.iadd, 1) := by decide +kernel
theorem dX9_sound_41 : decode cX9_sound 41 = .ok (.iaload, 1) := by decide +kernel
theorem dX9_sound_42 : decode cX9_sound 42 = .ok (.iload_n 2, 1) := by decide +kernel
theorem dX9_sound_43 : decode cX9_sound 43 = .ok (.invokestatic 133, 3) := by decide +kernel
theorem dX9_sound_46 : decode cX9_sound 46 = .ok (.ifCond .eq 7, 3) := by decide +kernel
theorem dX9_sound_49 : decode cX9_sound 49 = .ok (.iconst 1, 1) := by decide +kernel
theorem dX9_sound_50 : decode cX9_sound 50 = .ok (.goto 4, 3) := by decide +kernel
theorem dX9_sound_53 : decode cX9_sound 53 = .ok (.iconst 0, 1) := by decide +kernel
theorem dX9_sound_54 : decode cX9_sound 54 = .ok (.ireturn, 1) := by decide +kernel
def R_X9_sound (a1 : Int32) (a2 : Int32) (σ : kS) (x : Int32) (τ : kS) : Prop := Run SM jX9_sound [(.ref 0), (.int a1), (.int a2)] σ (some (.int x)) τ
set_option maxRecDepth 20000 in
theorem t_X9_sound {a1 : Int32} {a2 : Int32} {σ : kS} {x : Int32} {τ : kS}  (h : (¬ (iv a1 0 ((σ.1 5 2) - 1)) → x = (-1 : Int32) ∧ τ = σ) ∧ ((iv a1 0 ((σ.1 5 2) - 1)) → ((iv a2 (0 : Int32) (11 : Int32)) → ∃ s3 : kS, R_X9_note  σ s3 ∧ (∃ s4 : kS, R_X9_turn 5 a1 a2 s3 s4 ∧ (vp_in ((8 : Int32) + a1) 38 ∧ ((¬ (hs (s4.1 5 ((8 : Int32) + a1).toNatClampNeg) a2) → x = (0 : Int32) ∧ τ = s4) ∧ ((hs (s4.1 5 ((8 : Int32) + a1).toNatClampNeg) a2) → x = (1 : Int32) ∧ τ = s4))))) ∧ (¬ (iv a2 (0 : Int32) (11 : Int32)) → x = (-1 : Int32) ∧ τ = σ))) : R_X9_sound a1 a2 σ x τ := by
  refine x_run [some (.ref 0), some (.int a1), some (.int a2)] (by decide +kernel) rfl (Nat.le_of_ble_eq_true rfl) ?_
  refine x_aload_n (pc := 0) 0 dX9_sound_0 rfl rfl ?_
  refine x_iload_n (pc := 1) 1 dX9_sound_1 rfl rfl ?_
  refine x_callV (pc := 2) [(.int a1)] [] dX9_sound_2 ⟨⟨hX9_isField.1, hX9_isField.2.1, hX9_isField.2.2, by decide⟩, mX9_121, vX9_isField.1, vX9_isField.2⟩ (ci := 9) rfl rfl rfl rfl (Nat.le_of_ble_eq_true rfl) (i_X9_isField) ?_
  refine x_bif_eq (pc := 5) 18 dX9_sound_5 (by decide) (fun c1 => ?_) (fun c1 => ?_)
  · replace h := h.1 c1
    refine x_iconst (pc := 18) (-1 : Int32) dX9_sound_18 (by decide +kernel) ?_
    exact x_ireturn2 (pc := 19) dX9_sound_19 rfl h.1 h.2
  · replace h := h.2 c1
    refine x_iload_n (pc := 8) 2 dX9_sound_8 rfl rfl ?_
    refine x_iconst (pc := 9) (0 : Int32) dX9_sound_9 (by decide +kernel) ?_
    refine x_bipush (pc := 10) (11 : Int32) dX9_sound_10 (by decide +kernel) ?_
    refine x_callS (pc := 12) [(.int a2), (.int (0 : Int32)), (.int (11 : Int32))] [] dX9_sound_12 ⟨⟨hX9_in.1, hX9_in.2.1, hX9_in.2.2, by decide⟩, mX9_54, sX9_in⟩ rfl rfl (Nat.le_of_ble_eq_true rfl) (i_X9_in) ?_
    refine x_bif_ne (pc := 15) 20 dX9_sound_15 (by decide) (fun c2 => ?_) (fun c2 => ?_)
    · replace h := h.1 c2
      refine x_aload_n (pc := 20) 0 dX9_sound_20 rfl rfl ?_
      obtain ⟨s3, hr, h⟩ := h
      refine x_callV (pc := 21) [] [] dX9_sound_21 ⟨⟨hX9_note.1, hX9_note.2.1, hX9_note.2.2, by decide⟩, mX9_163, vX9_note.1, vX9_note.2⟩ (ci := 9) rfl rfl rfl rfl (Nat.le_of_ble_eq_true rfl) hr ?_
      refine x_aload_n (pc := 24) 0 dX9_sound_24 rfl rfl ?_
      refine x_getR (pc := 25) dX9_sound_25 fX9_23 rfl rfl ?_
      refine x_iload_n (pc := 28) 1 dX9_sound_28 rfl rfl ?_
      refine x_iload_n (pc := 29) 2 dX9_sound_29 rfl rfl ?_
      obtain ⟨s4, hr, h⟩ := h
      refine x_callS (pc := 30) [(.ref 5), (.int a1), (.int a2)] [] dX9_sound_30 ⟨⟨hX9_turn.1, hX9_turn.2.1, hX9_turn.2.2, by decide⟩, mX9_169, sX9_turn⟩ rfl rfl (Nat.le_of_ble_eq_true rfl) hr ?_
      refine x_aload_n (pc := 33) 0 dX9_sound_33 rfl rfl ?_
      refine x_getR (pc := 34) dX9_sound_34 fX9_23 rfl rfl ?_
      refine x_bipush (pc := 37) (8 : Int32) dX9_sound_37 (by decide +kernel) ?_
      refine x_iload_n (pc := 39) 1 dX9_sound_39 rfl rfl ?_
      refine x_iadd (pc := 40) dX9_sound_40 ?_
      obtain ⟨g5, h⟩ := h
      refine x_iaload (pc := 41) (n := 38) dX9_sound_41 rfl g5 ?_
      refine x_iload_n (pc := 42) 2 dX9_sound_42 rfl rfl ?_
      refine x_callS (pc := 43) [(.int (s4.1 5 ((8 : Int32) + a1).toNatClampNeg)), (.int a2)] [] dX9_sound_43 ⟨⟨hX9_has.1, hX9_has.2.1, hX9_has.2.2, by decide⟩, mX9_133, sX9_has⟩ rfl rfl (Nat.le_of_ble_eq_true rfl) (i_X9_has) ?_
      refine x_bif_eq (pc := 46) 53 dX9_sound_46 (by decide) (fun c6 => ?_) (fun c6 => ?_)
      · replace h := h.1 c6
        refine x_iconst (pc := 53) (0 : Int32) dX9_sound_53 (by decide +kernel) ?_
        exact x_ireturn2 (pc := 54) dX9_sound_54 rfl h.1 h.2
      · replace h := h.2 c6
        refine x_iconst (pc := 49) (1 : Int32) dX9_sound_49 (by decide +kernel) ?_
        refine x_goto (pc := 50) 54 dX9_sound_50 (by decide) ?_
        exact x_ireturn2 (pc := 54) dX9_sound_54 rfl h.1 h.2
    · replace h := h.2 c2
      refine x_iconst (pc := 18) (-1 : Int32) dX9_sound_18 (by decide +kernel) ?_
      exact x_ireturn2 (pc := 19) dX9_sound_19 rfl h.1 h.2
theorem dX9_undo_0 : decode cX9_undo 0 = .ok (.aload_n 0, 1) := by decide +kernel
theorem dX9_undo_1 : decode cX9_undo 1 = .ok (.getfield 103, 3) := by decide +kernel
theorem dX9_undo_4 : decode cX9_undo 4 = .ok (.ifCond .ne 6, 3) := by decide +kernel
theorem dX9_undo_7 : decode cX9_undo 7 = .ok (.bipush (-4), 2) := by decide +kernel
theorem dX9_undo_9 : decode cX9_undo 9 = .ok (.ireturn, 1) := by decide +kernel
theorem dX9_undo_10 : decode cX9_undo 10 = .ok (.aload_n 0, 1) := by decide +kernel
theorem dX9_undo_11 : decode cX9_undo 11 = .ok (.dup, 1) := by decide +kernel
theorem dX9_undo_12 : decode cX9_undo 12 = .ok (.getfield 103, 3) := by decide +kernel
theorem dX9_undo_15 : decode cX9_undo 15 = .ok (.iconst 1, 1) := by decide +kernel
theorem dX9_undo_16 : decode cX9_undo 16 = .ok (.isub, 1) := by decide +kernel
theorem dX9_undo_17 : decode cX9_undo 17 = .ok (.putfield 103, 3) := by decide +kernel
theorem dX9_undo_20 : decode cX9_undo 20 = .ok (.aload_n 0, 1) := by decide +kernel
theorem dX9_undo_21 : decode cX9_undo 21 = .ok (.getfield 39, 3) := by decide +kernel
theorem dX9_undo_24 : decode cX9_undo 24 = .ok (.bipush 38, 2) := by decide +kernel
theorem dX9_undo_26 : decode cX9_undo 26 = .ok (.aload_n 0, 1) := by decide +kernel
theorem dX9_undo_27 : decode cX9_undo 27 = .ok (.getfield 103, 3) := by decide +kernel
theorem dX9_undo_30 : decode cX9_undo 30 = .ok (.imul, 1) := by decide +kernel
theorem dX9_undo_31 : decode cX9_undo 31 = .ok (.aload_n 0, 1) := by decide +kernel
theorem dX9_undo_32 : decode cX9_undo 32 = .ok (.getfield 23, 3) := by decide +kernel
theorem dX9_undo_35 : decode cX9_undo 35 = .ok (.iconst 0, 1) := by decide +kernel
theorem dX9_undo_36 : decode cX9_undo 36 = .ok (.bipush 38, 2) := by decide +kernel
theorem dX9_undo_38 : decode cX9_undo 38 = .ok (.invokestatic 99, 3) := by decide +kernel
theorem dX9_undo_41 : decode cX9_undo 41 = .ok (.aload_n 0, 1) := by decide +kernel
theorem dX9_undo_42 : decode cX9_undo 42 = .ok (.getfield 103, 3) := by decide +kernel
theorem dX9_undo_45 : decode cX9_undo 45 = .ok (.ireturn, 1) := by decide +kernel
def R_X9_undo  (σ : kS) (x : Int32) (τ : kS) : Prop := Run SM jX9_undo [(.ref 0)] σ (some (.int x)) τ
set_option maxRecDepth 20000 in
theorem t_X9_undo  {σ : kS} {x : Int32} {τ : kS}  (h : (¬ (σ.1 0 12) = 0 → ∃ s2 : kS, R_X9_bring 10 912 ((38 : Int32) * ((σ.1 0 12) - (1 : Int32))) 5 38 (0 : Int32) (38 : Int32) (k_si σ 0 12 ((σ.1 0 12) - (1 : Int32))) s2 ∧ (x = (s2.1 0 12) ∧ τ = s2)) ∧ ((σ.1 0 12) = 0 → x = (-4 : Int32) ∧ τ = σ)) : R_X9_undo  σ x τ := by
  refine x_run [some (.ref 0)] (by decide +kernel) rfl (Nat.le_of_ble_eq_true rfl) ?_
  refine x_aload_n (pc := 0) 0 dX9_undo_0 rfl rfl ?_
  refine x_getI (pc := 1) dX9_undo_1 fX9_103 rfl rfl ?_
  refine x_if_ne (pc := 4) 10 dX9_undo_4 (by decide) (fun c1 => ?_) (fun c1 => ?_)
  · replace h := h.1 c1
    refine x_aload_n (pc := 10) 0 dX9_undo_10 rfl rfl ?_
    refine x_dup (pc := 11) dX9_undo_11 rfl ?_
    refine x_getI (pc := 12) dX9_undo_12 fX9_103 rfl rfl ?_
    refine x_iconst (pc := 15) (1 : Int32) dX9_undo_15 (by decide +kernel) ?_
    refine x_isub (pc := 16) dX9_undo_16 ?_
    refine x_putI (pc := 17) dX9_undo_17 pX9_103 rfl rfl ?_
    refine x_aload_n (pc := 20) 0 dX9_undo_20 rfl rfl ?_
    refine x_getR (pc := 21) dX9_undo_21 fX9_39 rfl rfl ?_
    refine x_bipush (pc := 24) (38 : Int32) dX9_undo_24 (by decide +kernel) ?_
    refine x_aload_n (pc := 26) 0 dX9_undo_26 rfl rfl ?_
    refine x_getI (pc := 27) dX9_undo_27 fX9_103 rfl rfl ?_
    refine x_imul (pc := 30) dX9_undo_30 ?_
    refine x_aload_n (pc := 31) 0 dX9_undo_31 rfl rfl ?_
    refine x_getR (pc := 32) dX9_undo_32 fX9_23 rfl rfl ?_
    refine x_iconst (pc := 35) (0 : Int32) dX9_undo_35 (by decide +kernel) ?_
    refine x_bipush (pc := 36) (38 : Int32) dX9_undo_36 (by decide +kernel) ?_
    obtain ⟨s2, hr, h⟩ := h
    refine x_callS (pc := 38) [(.ref 10), (.int ((38 : Int32) * ((σ.1 0 12) - (1 : Int32)))), (.ref 5), (.int (0 : Int32)), (.int (38 : Int32))] [] dX9_undo_38 ⟨⟨hX9_bring.1, hX9_bring.2.1, hX9_bring.2.2, by decide⟩, mX9_99, sX9_bring⟩ rfl rfl (Nat.le_of_ble_eq_true rfl) hr ?_
    refine x_aload_n (pc := 41) 0 dX9_undo_41 rfl rfl ?_
    refine x_getI (pc := 42) dX9_undo_42 fX9_103 rfl rfl ?_
    exact x_ireturn2 (pc := 45) dX9_undo_45 rfl h.1 h.2
  · replace h := h.2 c1
    refine x_bipush (pc := 7) (-4 : Int32) dX9_undo_7 (by decide +kernel) ?_
    exact x_ireturn2 (pc := 9) dX9_undo_9 rfl h.1 h.2
theorem dX9_image_0 : decode cX9_image 0 = .ok (.iload_n 1, 1) := by decide +kernel
theorem dX9_image_1 : decode cX9_image 1 = .ok (.iconst 0, 1) := by decide +kernel
theorem dX9_image_2 : decode cX9_image 2 = .ok (.iconst 1, 1) := by decide +kernel
theorem dX9_image_3 : decode cX9_image 3 = .ok (.invokestatic 54, 3) := by decide +kernel
theorem dX9_image_6 : decode cX9_image 6 = .ok (.ifCond .ne 5, 3) := by decide +kernel
theorem dX9_image_9 : decode cX9_image 9 = .ok (.iconst (-1), 1) := by decide +kernel
theorem dX9_image_10 : decode cX9_image 10 = .ok (.ireturn, 1) := by decide +kernel
theorem dX9_image_11 : decode cX9_image 11 = .ok (.aload_n 0, 1) := by decide +kernel
theorem dX9_image_12 : decode cX9_image 12 = .ok (.invokevirtual 110, 3) := by decide +kernel
theorem dX9_image_15 : decode cX9_image 15 = .ok (.ifCond .ne 6, 3) := by decide +kernel
theorem dX9_image_18 : decode cX9_image 18 = .ok (.bipush (-2), 2) := by decide +kernel
theorem dX9_image_20 : decode cX9_image 20 = .ok (.ireturn, 1) := by decide +kernel
theorem dX9_image_21 : decode cX9_image 21 = .ok (.aload_n 0, 1) := by decide +kernel
theorem dX9_image_22 : decode cX9_image 22 = .ok (.getfield 23, 3) := by decide +kernel
theorem dX9_image_25 : decode cX9_image 25 = .ok (.iconst 0, 1) := by decide +kernel
theorem dX9_image_26 : decode cX9_image 26 = .ok (.aload_n 0, 1) := by decide +kernel
theorem dX9_image_27 : decode cX9_image 27 = .ok (.getfield 32, 3) := by decide +kernel
theorem dX9_image_30 : decode cX9_image 30 = .ok (.bipush 38, 2) := by decide +kernel
theorem dX9_image_32 : decode cX9_image 32 = .ok (.iload_n 1, 1) := by decide +kernel
theorem dX9_image_33 : decode cX9_image 33 = .ok (.imul, 1) := by decide +kernel
theorem dX9_image_34 : decode cX9_image 34 = .ok (.bipush 38, 2) := by decide +kernel
theorem dX9_image_36 : decode cX9_image 36 = .ok (.invokestatic 99, 3) := by decide +kernel
theorem dX9_image_39 : decode cX9_image 39 = .ok (.aload_n 0, 1) := by decide +kernel
theorem dX9_image_40 : decode cX9_image 40 = .ok (.getfield 35, 3) := by decide +kernel
theorem dX9_image_43 : decode cX9_image 43 = .ok (.iload_n 1, 1) := by decide +kernel
theorem dX9_image_44 : decode cX9_image 44 = .ok (.iconst 1, 1) := by decide +kernel
theorem dX9_image_45 : decode cX9_image 45 = .ok (.bastore, 1) := by decide +kernel
theorem dX9_image_46 : decode cX9_image 46 = .ok (.aload_n 0, 1) := by decide +kernel
theorem dX9_image_47 : decode cX9_image 47 = .ok (.getfield 23, 3) := by decide +kernel
theorem dX9_image_50 : decode cX9_image 50 = .ok (.iconst 0, 1) := by decide +kernel
theorem dX9_image_51 : decode cX9_image 51 = .ok (.iaload, 1) := by decide +kernel
theorem dX9_image_52 : decode cX9_image 52 = .ok (.ireturn, 1) := by decide +kernel
def R_X9_image (a1 : Int32) (σ : kS) (x : Int32) (τ : kS) : Prop := Run SM jX9_image [(.ref 0), (.int a1)] σ (some (.int x)) τ
set_option maxRecDepth 20000 in
theorem t_X9_image {a1 : Int32} {σ : kS} {x : Int32} {τ : kS}  (h : ((iv a1 (0 : Int32) (1 : Int32)) → ((0 < (σ.1 5 1)) → ∃ s3 : kS, R_X9_bring 5 38 (0 : Int32) 8 76 ((38 : Int32) * a1) (38 : Int32) σ s3 ∧ (vp_in a1 2 ∧ (x = (s3.1 5 0) ∧ τ = (k_si s3 9 a1.toNatClampNeg (vp_nar .boolean (1 : Int32)))))) ∧ (¬ (0 < (σ.1 5 1)) → x = (-2 : Int32) ∧ τ = σ)) ∧ (¬ (iv a1 (0 : Int32) (1 : Int32)) → x = (-1 : Int32) ∧ τ = σ)) : R_X9_image a1 σ x τ := by
  refine x_run [some (.ref 0), some (.int a1)] (by decide +kernel) rfl (Nat.le_of_ble_eq_true rfl) ?_
  refine x_iload_n (pc := 0) 1 dX9_image_0 rfl rfl ?_
  refine x_iconst (pc := 1) (0 : Int32) dX9_image_1 (by decide +kernel) ?_
  refine x_iconst (pc := 2) (1 : Int32) dX9_image_2 (by decide +kernel) ?_
  refine x_callS (pc := 3) [(.int a1), (.int (0 : Int32)), (.int (1 : Int32))] [] dX9_image_3 ⟨⟨hX9_in.1, hX9_in.2.1, hX9_in.2.2, by decide⟩, mX9_54, sX9_in⟩ rfl rfl (Nat.le_of_ble_eq_true rfl) (i_X9_in) ?_
  refine x_bif_ne (pc := 6) 11 dX9_image_6 (by decide) (fun c1 => ?_) (fun c1 => ?_)
  · replace h := h.1 c1
    refine x_aload_n (pc := 11) 0 dX9_image_11 rfl rfl ?_
    refine x_callV (pc := 12) [] [] dX9_image_12 ⟨⟨hX9_isThere.1, hX9_isThere.2.1, hX9_isThere.2.2, by decide⟩, mX9_110, vX9_isThere.1, vX9_isThere.2⟩ (ci := 9) rfl rfl rfl rfl (Nat.le_of_ble_eq_true rfl) (i_X9_isThere) ?_
    refine x_bif_ne (pc := 15) 21 dX9_image_15 (by decide) (fun c2 => ?_) (fun c2 => ?_)
    · replace h := h.1 c2
      refine x_aload_n (pc := 21) 0 dX9_image_21 rfl rfl ?_
      refine x_getR (pc := 22) dX9_image_22 fX9_23 rfl rfl ?_
      refine x_iconst (pc := 25) (0 : Int32) dX9_image_25 (by decide +kernel) ?_
      refine x_aload_n (pc := 26) 0 dX9_image_26 rfl rfl ?_
      refine x_getR (pc := 27) dX9_image_27 fX9_32 rfl rfl ?_
      refine x_bipush (pc := 30) (38 : Int32) dX9_image_30 (by decide +kernel) ?_
      refine x_iload_n (pc := 32) 1 dX9_image_32 rfl rfl ?_
      refine x_imul (pc := 33) dX9_image_33 ?_
      refine x_bipush (pc := 34) (38 : Int32) dX9_image_34 (by decide +kernel) ?_
      obtain ⟨s3, hr, h⟩ := h
      refine x_callS (pc := 36) [(.ref 5), (.int (0 : Int32)), (.ref 8), (.int ((38 : Int32) * a1)), (.int (38 : Int32))] [] dX9_image_36 ⟨⟨hX9_bring.1, hX9_bring.2.1, hX9_bring.2.2, by decide⟩, mX9_99, sX9_bring⟩ rfl rfl (Nat.le_of_ble_eq_true rfl) hr ?_
      refine x_aload_n (pc := 39) 0 dX9_image_39 rfl rfl ?_
      refine x_getR (pc := 40) dX9_image_40 fX9_35 rfl rfl ?_
      refine x_iload_n (pc := 43) 1 dX9_image_43 rfl rfl ?_
      refine x_iconst (pc := 44) (1 : Int32) dX9_image_44 (by decide +kernel) ?_
      obtain ⟨g4, h⟩ := h
      refine x_bastore (pc := 45) (n := 2) dX9_image_45 rfl g4 ?_
      refine x_aload_n (pc := 46) 0 dX9_image_46 rfl rfl ?_
      refine x_getR (pc := 47) dX9_image_47 fX9_23 rfl rfl ?_
      refine x_iconst (pc := 50) (0 : Int32) dX9_image_50 (by decide +kernel) ?_
      refine x_ialoadK (pc := 51) (n := 38) 0 dX9_image_51 rfl (by decide) (by decide +kernel) ?_
      exact x_ireturn2 (pc := 52) dX9_image_52 rfl h.1 h.2
    · replace h := h.2 c2
      refine x_bipush (pc := 18) (-2 : Int32) dX9_image_18 (by decide +kernel) ?_
      exact x_ireturn2 (pc := 20) dX9_image_20 rfl h.1 h.2
  · replace h := h.2 c1
    refine x_iconst (pc := 9) (-1 : Int32) dX9_image_9 (by decide +kernel) ?_
    exact x_ireturn2 (pc := 10) dX9_image_10 rfl h.1 h.2
theorem dX9_restore_0 : decode cX9_restore 0 = .ok (.iload_n 1, 1) := by decide +kernel
theorem dX9_restore_1 : decode cX9_restore 1 = .ok (.iconst 0, 1) := by decide +kernel
theorem dX9_restore_2 : decode cX9_restore 2 = .ok (.iconst 1, 1) := by decide +kernel
theorem dX9_restore_3 : decode cX9_restore 3 = .ok (.invokestatic 54, 3) := by decide +kernel
theorem dX9_restore_6 : decode cX9_restore 6 = .ok (.ifCond .ne 5, 3) := by decide +kernel
theorem dX9_restore_9 : decode cX9_restore 9 = .ok (.iconst (-1), 1) := by decide +kernel
theorem dX9_restore_10 : decode cX9_restore 10 = .ok (.ireturn, 1) := by decide +kernel
theorem dX9_restore_11 : decode cX9_restore 11 = .ok (.aload_n 0, 1) := by decide +kernel
theorem dX9_restore_12 : decode cX9_restore 12 = .ok (.getfield 35, 3) := by decide +kernel
theorem dX9_restore_15 : decode cX9_restore 15 = .ok (.iload_n 1, 1) := by decide +kernel
theorem dX9_restore_16 : decode cX9_restore 16 = .ok (.baload, 1) := by decide +kernel
theorem dX9_restore_17 : decode cX9_restore 17 = .ok (.ifCond .ne 6, 3) := by decide +kernel
theorem dX9_restore_20 : decode cX9_restore 20 = .ok (.bipush (-2), 2) := by decide +kernel
theorem dX9_restore_22 : decode cX9_restore 22 = .ok (.ireturn, 1) := by decide +kernel
theorem dX9_restore_23 : decode cX9_restore 23 = .ok (.aload_n 0, 1) := by decide +kernel
theorem dX9_restore_24 : decode cX9_restore 24 = .ok (.getfield 32, 3) := by decide +kernel
theorem dX9_restore_27 : decode cX9_restore 27 = .ok (.bipush 38, 2) := by decide +kernel
theorem dX9_restore_29 : decode cX9_restore 29 = .ok (.iload_n 1, 1) := by decide +kernel
theorem dX9_restore_30 : decode cX9_restore 30 = .ok (.imul, 1) := by decide +kernel
theorem dX9_restore_31 : decode cX9_restore 31 = .ok (.aload_n 0, 1) := by decide +kernel
theorem dX9_restore_32 : decode cX9_restore 32 = .ok (.getfield 23, 3) := by decide +kernel
theorem dX9_restore_35 : decode cX9_restore 35 = .ok (.iconst 0, 1) := by decide +kernel
theorem dX9_restore_36 : decode cX9_restore 36 = .ok (.bipush 38, 2) := by decide +kernel
theorem dX9_restore_38 : decode cX9_restore 38 = .ok (.invokestatic 99, 3) := by decide +kernel
theorem dX9_restore_41 : decode cX9_restore 41 = .ok (.aload_n 0, 1) := by decide +kernel
theorem dX9_restore_42 : decode cX9_restore 42 = .ok (.iconst 0, 1) := by decide +kernel
theorem dX9_restore_43 : decode cX9_restore 43 = .ok (.putfield 103, 3) := by decide +kernel
theorem dX9_restore_46 : decode cX9_restore 46 = .ok (.aload_n 0, 1) := by decide +kernel
theorem dX9_restore_47 : decode cX9_restore 47 = .ok (.getfield 23, 3) := by decide +kernel
theorem dX9_restore_50 : decode cX9_restore 50 = .ok (.iconst 0, 1) := by decide +kernel
theorem dX9_restore_51 : decode cX9_restore 51 = .ok (.iaload, 1) := by decide +kernel
theorem dX9_restore_52 : decode cX9_restore 52 = .ok (.ireturn, 1) := by decide +kernel
def R_X9_restore (a1 : Int32) (σ : kS) (x : Int32) (τ : kS) : Prop := Run SM jX9_restore [(.ref 0), (.int a1)] σ (some (.int x)) τ
set_option maxRecDepth 20000 in
theorem t_X9_restore {a1 : Int32} {σ : kS} {x : Int32} {τ : kS}  (h : ((iv a1 (0 : Int32) (1 : Int32)) → vp_in a1 2 ∧ ((¬ (σ.1 9 a1.toNatClampNeg) = 0 → ∃ s4 : kS, R_X9_bring 8 76 ((38 : Int32) * a1) 5 38 (0 : Int32) (38 : Int32) σ s4 ∧ (x = (s4.1 5 0) ∧ τ = (k_si s4 0 12 (0 : Int32)))) ∧ ((σ.1 9 a1.toNatClampNeg) = 0 → x = (-2 : Int32) ∧ τ = σ))) ∧ (¬ (iv a1 (0 : Int32) (1 : Int32)) → x = (-1 : Int32) ∧ τ = σ)) : R_X9_restore a1 σ x τ := by
  refine x_run [some (.ref 0), some (.int a1)] (by decide +kernel) rfl (Nat.le_of_ble_eq_true rfl) ?_
  refine x_iload_n (pc := 0) 1 dX9_restore_0 rfl rfl ?_
  refine x_iconst (pc := 1) (0 : Int32) dX9_restore_1 (by decide +kernel) ?_
  refine x_iconst (pc := 2) (1 : Int32) dX9_restore_2 (by decide +kernel) ?_
  refine x_callS (pc := 3) [(.int a1), (.int (0 : Int32)), (.int (1 : Int32))] [] dX9_restore_3 ⟨⟨hX9_in.1, hX9_in.2.1, hX9_in.2.2, by decide⟩, mX9_54, sX9_in⟩ rfl rfl (Nat.le_of_ble_eq_true rfl) (i_X9_in) ?_
  refine x_bif_ne (pc := 6) 11 dX9_restore_6 (by decide) (fun c1 => ?_) (fun c1 => ?_)
  · replace h := h.1 c1
    refine x_aload_n (pc := 11) 0 dX9_restore_11 rfl rfl ?_
    refine x_getR (pc := 12) dX9_restore_12 fX9_35 rfl rfl ?_
    refine x_iload_n (pc := 15) 1 dX9_restore_15 rfl rfl ?_
    obtain ⟨g2, h⟩ := h
    refine x_baload (pc := 16) (n := 2) dX9_restore_16 rfl g2 ?_
    refine x_if_ne (pc := 17) 23 dX9_restore_17 (by decide) (fun c3 => ?_) (fun c3 => ?_)
    · replace h := h.1 c3
      refine x_aload_n (pc := 23) 0 dX9_restore_23 rfl rfl ?_
      refine x_getR (pc := 24) dX9_restore_24 fX9_32 rfl rfl ?_
      refine x_bipush (pc := 27) (38 : Int32) dX9_restore_27 (by decide +kernel) ?_
      refine x_iload_n (pc := 29) 1 dX9_restore_29 rfl rfl ?_
      refine x_imul (pc := 30) dX9_restore_30 ?_
      refine x_aload_n (pc := 31) 0 dX9_restore_31 rfl rfl ?_
      refine x_getR (pc := 32) dX9_restore_32 fX9_23 rfl rfl ?_
      refine x_iconst (pc := 35) (0 : Int32) dX9_restore_35 (by decide +kernel) ?_
      refine x_bipush (pc := 36) (38 : Int32) dX9_restore_36 (by decide +kernel) ?_
      obtain ⟨s4, hr, h⟩ := h
      refine x_callS (pc := 38) [(.ref 8), (.int ((38 : Int32) * a1)), (.ref 5), (.int (0 : Int32)), (.int (38 : Int32))] [] dX9_restore_38 ⟨⟨hX9_bring.1, hX9_bring.2.1, hX9_bring.2.2, by decide⟩, mX9_99, sX9_bring⟩ rfl rfl (Nat.le_of_ble_eq_true rfl) hr ?_
      refine x_aload_n (pc := 41) 0 dX9_restore_41 rfl rfl ?_
      refine x_iconst (pc := 42) (0 : Int32) dX9_restore_42 (by decide +kernel) ?_
      refine x_putI (pc := 43) dX9_restore_43 pX9_103 rfl rfl ?_
      refine x_aload_n (pc := 46) 0 dX9_restore_46 rfl rfl ?_
      refine x_getR (pc := 47) dX9_restore_47 fX9_23 rfl rfl ?_
      refine x_iconst (pc := 50) (0 : Int32) dX9_restore_50 (by decide +kernel) ?_
      refine x_ialoadK (pc := 51) (n := 38) 0 dX9_restore_51 rfl (by decide) (by decide +kernel) ?_
      exact x_ireturn2 (pc := 52) dX9_restore_52 rfl h.1 h.2
    · replace h := h.2 c3
      refine x_bipush (pc := 20) (-2 : Int32) dX9_restore_20 (by decide +kernel) ?_
      exact x_ireturn2 (pc := 22) dX9_restore_22 rfl h.1 h.2
  · replace h := h.2 c1
    refine x_iconst (pc := 9) (-1 : Int32) dX9_restore_9 (by decide +kernel) ?_
    exact x_ireturn2 (pc := 10) dX9_restore_10 rfl h.1 h.2
theorem dX9_begin_0 : decode cX9_begin 0 = .ok (.aload_n 0, 1) := by decide +kernel
theorem dX9_begin_1 : decode cX9_begin 1 = .ok (.getfield 23, 3) := by decide +kernel
theorem dX9_begin_4 : decode cX9_begin 4 = .ok (.iconst 0, 1) := by decide +kernel
theorem dX9_begin_5 : decode cX9_begin 5 = .ok (.aload_n 0, 1) := by decide +kernel
theorem dX9_begin_6 : decode cX9_begin 6 = .ok (.getfield 29, 3) := by decide +kernel
theorem dX9_begin_9 : decode cX9_begin 9 = .ok (.iconst 0, 1) := by decide +kernel
theorem dX9_begin_10 : decode cX9_begin 10 = .ok (.bipush 38, 2) := by decide +kernel
theorem dX9_begin_12 : decode cX9_begin 12 = .ok (.invokestatic 99, 3) := by decide +kernel
theorem dX9_begin_15 : decode cX9_begin 15 = .ok (.return_, 1) := by decide +kernel
def R_X9_begin  (σ : kS) (τ : kS) : Prop := Run SM jX9_begin [(.ref 0)] σ none τ
set_option maxRecDepth 20000 in
theorem t_X9_begin  {σ : kS} {τ : kS}  (h : ∃ s1 : kS, R_X9_bring 5 38 (0 : Int32) 7 38 (0 : Int32) (38 : Int32) σ s1 ∧ (τ = s1)) : R_X9_begin  σ τ := by
  refine x_run [some (.ref 0)] (by decide +kernel) rfl (Nat.le_of_ble_eq_true rfl) ?_
  refine x_aload_n (pc := 0) 0 dX9_begin_0 rfl rfl ?_
  refine x_getR (pc := 1) dX9_begin_1 fX9_23 rfl rfl ?_
  refine x_iconst (pc := 4) (0 : Int32) dX9_begin_4 (by decide +kernel) ?_
  refine x_aload_n (pc := 5) 0 dX9_begin_5 rfl rfl ?_
  refine x_getR (pc := 6) dX9_begin_6 fX9_29 rfl rfl ?_
  refine x_iconst (pc := 9) (0 : Int32) dX9_begin_9 (by decide +kernel) ?_
  refine x_bipush (pc := 10) (38 : Int32) dX9_begin_10 (by decide +kernel) ?_
  obtain ⟨s1, hr, h⟩ := h
  refine x_callS (pc := 12) [(.ref 5), (.int (0 : Int32)), (.ref 7), (.int (0 : Int32)), (.int (38 : Int32))] [] dX9_begin_12 ⟨⟨hX9_bring.1, hX9_bring.2.1, hX9_bring.2.2, by decide⟩, mX9_99, sX9_bring⟩ rfl rfl (Nat.le_of_ble_eq_true rfl) hr ?_
  exact x_return2 (pc := 15) dX9_begin_15 rfl h
theorem dX9_sings_0 : decode cX9_sings 0 = .ok (.aload_n 0, 1) := by decide +kernel
theorem dX9_sings_1 : decode cX9_sings 1 = .ok (.iload_n 1, 1) := by decide +kernel
theorem dX9_sings_2 : decode cX9_sings 2 = .ok (.invokevirtual 130, 3) := by decide +kernel
theorem dX9_sings_5 : decode cX9_sings 5 = .ok (.ifCond .ne 5, 3) := by decide +kernel
theorem dX9_sings_8 : decode cX9_sings 8 = .ok (.iconst (-1), 1) := by decide +kernel
theorem dX9_sings_9 : decode cX9_sings 9 = .ok (.ireturn, 1) := by decide +kernel
theorem dX9_sings_10 : decode cX9_sings 10 = .ok (.aload_n 0, 1) := by decide +kernel
theorem dX9_sings_11 : decode cX9_sings 11 = .ok (.aload_n 0, 1) := by decide +kernel
theorem dX9_sings_12 : decode cX9_sings 12 = .ok (.getfield 23, 3) := by decide +kernel
theorem dX9_sings_15 : decode cX9_sings 15 = .ok (.invokevirtual 156, 3) := by decide +kernel
theorem dX9_sings_18 : decode cX9_sings 18 = .ok (.pop, 1) := by decide +kernel
theorem dX9_sings_19 : decode cX9_sings 19 = .ok (.aload_n 0, 1) := by decide +kernel
theorem dX9_sings_20 : decode cX9_sings 20 = .ok (.getfield 42, 3) := by decide +kernel
theorem dX9_sings_23 : decode cX9_sings 23 = .ok (.iload_n 1, 1) := by decide +kernel
theorem dX9_sings_24 : decode cX9_sings 24 = .ok (.iaload, 1) := by decide +kernel
theorem dX9_sings_25 : decode cX9_sings 25 = .ok (.bipush 12, 2) := by decide +kernel
theorem dX9_sings_27 : decode cX9_sings 27 = .ok (.if_icmp .ne 8, 3) := by decide +kernel
theorem dX9_sings_30 : decode cX9_sings 30 = .ok (.bipush (-4), 2) := by decide +kernel
theorem dX9_sings_32 : decode cX9_sings 32 = .ok (.goto 9, 3) := by decide +kernel
theorem dX9_sings_35 : decode cX9_sings 35 = .ok (.aload_n 0, 1) := by decide +kernel
theorem dX9_sings_36 : decode cX9_sings 36 = .ok (.getfield 42, 3) := by decide +kernel
theorem dX9_sings_39 : decode cX9_sings 39 = .ok (.iload_n 1, 1) := by decide +kernel
theorem dX9_sings_40 : decode cX9_sings 40 = .ok (.iaload, 1) := by decide +kernel
theorem dX9_sings_41 : decode cX9_sings 41 = .ok (.ireturn, 1) := by decide +kernel
def R_X9_sings (a1 : Int32) (σ : kS) (x : Int32) (τ : kS) : Prop := Run SM jX9_sings [(.ref 0), (.int a1)] σ (some (.int x)) τ
set_option maxRecDepth 20000 in
theorem t_X9_sings {a1 : Int32} {σ : kS} {x : Int32} {τ : kS}  (h : ((iv a1 0 ((σ.1 5 3) - 1)) → ∃ (x3 : Int32) (s2 : kS), R_X9_singAll 5 σ x3 s2 ∧ (vp_in a1 5 ∧ ((¬ (s2.1 11 a1.toNatClampNeg) = (12 : Int32) → vp_in a1 5 ∧ (x = (s2.1 11 a1.toNatClampNeg) ∧ τ = s2)) ∧ ((s2.1 11 a1.toNatClampNeg) = (12 : Int32) → x = (-4 : Int32) ∧ τ = s2)))) ∧ (¬ (iv a1 0 ((σ.1 5 3) - 1)) → x = (-1 : Int32) ∧ τ = σ)) : R_X9_sings a1 σ x τ := by
  refine x_run [some (.ref 0), some (.int a1)] (by decide +kernel) rfl (Nat.le_of_ble_eq_true rfl) ?_
  refine x_aload_n (pc := 0) 0 dX9_sings_0 rfl rfl ?_
  refine x_iload_n (pc := 1) 1 dX9_sings_1 rfl rfl ?_
  refine x_callV (pc := 2) [(.int a1)] [] dX9_sings_2 ⟨⟨hX9_isOne.1, hX9_isOne.2.1, hX9_isOne.2.2, by decide⟩, mX9_130, vX9_isOne.1, vX9_isOne.2⟩ (ci := 9) rfl rfl rfl rfl (Nat.le_of_ble_eq_true rfl) (i_X9_isOne) ?_
  refine x_bif_ne (pc := 5) 10 dX9_sings_5 (by decide) (fun c1 => ?_) (fun c1 => ?_)
  · replace h := h.1 c1
    refine x_aload_n (pc := 10) 0 dX9_sings_10 rfl rfl ?_
    refine x_aload_n (pc := 11) 0 dX9_sings_11 rfl rfl ?_
    refine x_getR (pc := 12) dX9_sings_12 fX9_23 rfl rfl ?_
    obtain ⟨x3, s2, hr, h⟩ := h
    refine x_callV (pc := 15) [(.ref 5)] [] dX9_sings_15 ⟨⟨hX9_singAll.1, hX9_singAll.2.1, hX9_singAll.2.2, by decide⟩, mX9_156, vX9_singAll.1, vX9_singAll.2⟩ (ci := 9) rfl rfl rfl rfl (Nat.le_of_ble_eq_true rfl) hr ?_
    refine x_pop (pc := 18) dX9_sings_18 rfl ?_
    refine x_aload_n (pc := 19) 0 dX9_sings_19 rfl rfl ?_
    refine x_getR (pc := 20) dX9_sings_20 fX9_42 rfl rfl ?_
    refine x_iload_n (pc := 23) 1 dX9_sings_23 rfl rfl ?_
    obtain ⟨g4, h⟩ := h
    refine x_iaload (pc := 24) (n := 5) dX9_sings_24 rfl g4 ?_
    refine x_bipush (pc := 25) (12 : Int32) dX9_sings_25 (by decide +kernel) ?_
    refine x_icmp_ne (pc := 27) 35 dX9_sings_27 (by decide) (fun c5 => ?_) (fun c5 => ?_)
    · replace h := h.1 c5
      refine x_aload_n (pc := 35) 0 dX9_sings_35 rfl rfl ?_
      refine x_getR (pc := 36) dX9_sings_36 fX9_42 rfl rfl ?_
      refine x_iload_n (pc := 39) 1 dX9_sings_39 rfl rfl ?_
      obtain ⟨g6, h⟩ := h
      refine x_iaload (pc := 40) (n := 5) dX9_sings_40 rfl g6 ?_
      exact x_ireturn2 (pc := 41) dX9_sings_41 rfl h.1 h.2
    · replace h := h.2 c5
      refine x_bipush (pc := 30) (-4 : Int32) dX9_sings_30 (by decide +kernel) ?_
      refine x_goto (pc := 32) 41 dX9_sings_32 (by decide) ?_
      exact x_ireturn2 (pc := 41) dX9_sings_41 rfl h.1 h.2
  · replace h := h.2 c1
    refine x_iconst (pc := 8) (-1 : Int32) dX9_sings_8 (by decide +kernel) ?_
    exact x_ireturn2 (pc := 9) dX9_sings_9 rfl h.1 h.2
theorem dX9_tiredOf_0 : decode cX9_tiredOf 0 = .ok (.iconst 0, 1) := by decide +kernel
theorem dX9_tiredOf_1 : decode cX9_tiredOf 1 = .ok (.istore_n 1, 1) := by decide +kernel
theorem dX9_tiredOf_2 : decode cX9_tiredOf 2 = .ok (.iconst 0, 1) := by decide +kernel
theorem dX9_tiredOf_3 : decode cX9_tiredOf 3 = .ok (.istore_n 2, 1) := by decide +kernel
theorem dX9_tiredOf_4 : decode cX9_tiredOf 4 = .ok (.iload_n 2, 1) := by decide +kernel
theorem dX9_tiredOf_5 : decode cX9_tiredOf 5 = .ok (.aload_n 0, 1) := by decide +kernel
theorem dX9_tiredOf_6 : decode cX9_tiredOf 6 = .ok (.iconst 3, 1) := by decide +kernel
theorem dX9_tiredOf_7 : decode cX9_tiredOf 7 = .ok (.iaload, 1) := by decide +kernel
theorem dX9_tiredOf_8 : decode cX9_tiredOf 8 = .ok (.if_icmp .ge 18, 3) := by decide +kernel
theorem dX9_tiredOf_11 : decode cX9_tiredOf 11 = .ok (.iload_n 1, 1) := by decide +kernel
theorem dX9_tiredOf_12 : decode cX9_tiredOf 12 = .ok (.aload_n 0, 1) := by decide +kernel
theorem dX9_tiredOf_13 : decode cX9_tiredOf 13 = .ok (.bipush 28, 2) := by decide +kernel
theorem dX9_tiredOf_15 : decode cX9_tiredOf 15 = .ok (.iload_n 2, 1) := by decide +kernel
theorem dX9_tiredOf_16 : decode cX9_tiredOf 16 = .ok (.iadd, 1) := by decide +kernel
theorem dX9_tiredOf_17 : decode cX9_tiredOf 17 = .ok (.iaload, 1) := by decide +kernel
theorem dX9_tiredOf_18 : decode cX9_tiredOf 18 = .ok (.iadd, 1) := by decide +kernel
theorem dX9_tiredOf_19 : decode cX9_tiredOf 19 = .ok (.istore_n 1, 1) := by decide +kernel
theorem dX9_tiredOf_20 : decode cX9_tiredOf 20 = .ok (.iinc 2 1, 3) := by decide +kernel
theorem dX9_tiredOf_23 : decode cX9_tiredOf 23 = .ok (.goto (-19), 3) := by decide +kernel
theorem dX9_tiredOf_26 : decode cX9_tiredOf 26 = .ok (.iload_n 1, 1) := by decide +kernel
theorem dX9_tiredOf_27 : decode cX9_tiredOf 27 = .ok (.ireturn, 1) := by decide +kernel
def R_X9_tiredOf (r0 : Nat) (σ : kS) (x : Int32) (τ : kS) : Prop := Run SM jX9_tiredOf [(.ref r0)] σ (some (.int x)) τ
def E_X9_tiredOf_4 (r0 : Nat) (l1 : Int32) (l2 : Int32) (σ : kS) (x : Int32) (τ : kS) : Prop := Ex SM jX9_tiredOf 4 [some (.ref r0), some (.int l1), some (.int l2)] [] σ (some (.int x)) τ
set_option maxRecDepth 20000 in
theorem t_X9_tiredOf {r0 : Nat} {σ : kS} {x : Int32} {τ : kS} (hr0 : k_is SM r0 1 38 = true) (h : E_X9_tiredOf_4 r0 (0 : Int32) (0 : Int32) σ x τ) : R_X9_tiredOf r0 σ x τ := by
  refine x_run [some (.ref r0), none, none] (by decide +kernel) rfl (Nat.le_of_ble_eq_true rfl) ?_
  refine x_iconst (pc := 0) (0 : Int32) dX9_tiredOf_0 (by decide +kernel) ?_
  refine x_istore_n (pc := 1) 1 dX9_tiredOf_1 rfl (by decide) rfl ?_
  refine x_iconst (pc := 2) (0 : Int32) dX9_tiredOf_2 (by decide +kernel) ?_
  refine x_istore_n (pc := 3) 2 dX9_tiredOf_3 rfl (by decide) rfl ?_
  exact h
set_option maxRecDepth 20000 in
theorem t_X9_tiredOf_4 {r0 : Nat} {l1 : Int32} {l2 : Int32} {σ : kS} {x : Int32} {τ : kS} (hr0 : k_is SM r0 1 38 = true) (h : ((σ.1 r0 3) ≤ l2 → x = l1 ∧ τ = σ) ∧ (¬ (σ.1 r0 3) ≤ l2 → vp_in ((28 : Int32) + l2) 38 ∧ (E_X9_tiredOf_4 r0 (l1 + (σ.1 r0 ((28 : Int32) + l2).toNatClampNeg)) (l2 + (1 : Int32)) σ x τ))) : E_X9_tiredOf_4 r0 l1 l2 σ x τ := by
  unfold E_X9_tiredOf_4
  refine x_iload_n (pc := 4) 2 dX9_tiredOf_4 rfl rfl ?_
  refine x_aload_n (pc := 5) 0 dX9_tiredOf_5 rfl rfl ?_
  refine x_iconst (pc := 6) (3 : Int32) dX9_tiredOf_6 (by decide +kernel) ?_
  refine x_ialoadK (pc := 7) (n := 38) 3 dX9_tiredOf_7 hr0 (by decide) (by decide +kernel) ?_
  refine x_icmp_ge (pc := 8) 26 dX9_tiredOf_8 (by decide) (fun c1 => ?_) (fun c1 => ?_)
  · replace h := h.1 c1
    refine x_iload_n (pc := 26) 1 dX9_tiredOf_26 rfl rfl ?_
    exact x_ireturn2 (pc := 27) dX9_tiredOf_27 rfl h.1 h.2
  · replace h := h.2 c1
    refine x_iload_n (pc := 11) 1 dX9_tiredOf_11 rfl rfl ?_
    refine x_aload_n (pc := 12) 0 dX9_tiredOf_12 rfl rfl ?_
    refine x_bipush (pc := 13) (28 : Int32) dX9_tiredOf_13 (by decide +kernel) ?_
    refine x_iload_n (pc := 15) 2 dX9_tiredOf_15 rfl rfl ?_
    refine x_iadd (pc := 16) dX9_tiredOf_16 ?_
    obtain ⟨g2, h⟩ := h
    refine x_iaload (pc := 17) (n := 38) dX9_tiredOf_17 hr0 g2 ?_
    refine x_iadd (pc := 18) dX9_tiredOf_18 ?_
    refine x_istore_n (pc := 19) 1 dX9_tiredOf_19 rfl (by decide) rfl ?_
    refine x_iinc (pc := 20) (1 : Int32) dX9_tiredOf_20 (by decide) rfl rfl (by decide +kernel) ?_
    refine x_goto (pc := 23) 4 dX9_tiredOf_23 (by decide) ?_
    exact h
theorem dX9_ahead_0 : decode cX9_ahead 0 = .ok (.iload_n 2, 1) := by decide +kernel
theorem dX9_ahead_1 : decode cX9_ahead 1 = .ok (.iconst 0, 1) := by decide +kernel
theorem dX9_ahead_2 : decode cX9_ahead 2 = .ok (.iconst 1, 1) := by decide +kernel
theorem dX9_ahead_3 : decode cX9_ahead 3 = .ok (.invokestatic 54, 3) := by decide +kernel
theorem dX9_ahead_6 : decode cX9_ahead 6 = .ok (.ifCond .eq 15, 3) := by decide +kernel
theorem dX9_ahead_9 : decode cX9_ahead 9 = .ok (.iload_n 1, 1) := by decide +kernel
theorem dX9_ahead_10 : decode cX9_ahead 10 = .ok (.iconst 1, 1) := by decide +kernel
theorem dX9_ahead_11 : decode cX9_ahead 11 = .ok (.iload_n 2, 1) := by decide +kernel
theorem dX9_ahead_12 : decode cX9_ahead 12 = .ok (.isub, 1) := by decide +kernel
theorem dX9_ahead_13 : decode cX9_ahead 13 = .ok (.bipush 60, 2) := by decide +kernel
theorem dX9_ahead_15 : decode cX9_ahead 15 = .ok (.invokestatic 54, 3) := by decide +kernel
theorem dX9_ahead_18 : decode cX9_ahead 18 = .ok (.ifCond .ne 5, 3) := by decide +kernel
theorem dX9_ahead_21 : decode cX9_ahead 21 = .ok (.iconst (-1), 1) := by decide +kernel
theorem dX9_ahead_22 : decode cX9_ahead 22 = .ok (.ireturn, 1) := by decide +kernel
theorem dX9_ahead_23 : decode cX9_ahead 23 = .ok (.aload_n 0, 1) := by decide +kernel
theorem dX9_ahead_24 : decode cX9_ahead 24 = .ok (.invokevirtual 110, 3) := by decide +kernel
theorem dX9_ahead_27 : decode cX9_ahead 27 = .ok (.ifCond .ne 6, 3) := by decide +kernel
theorem dX9_ahead_30 : decode cX9_ahead 30 = .ok (.bipush (-2), 2) := by decide +kernel
theorem dX9_ahead_32 : decode cX9_ahead 32 = .ok (.ireturn, 1) := by decide +kernel
theorem dX9_ahead_33 : decode cX9_ahead 33 = .ok (.aload_n 0, 1) := by decide +kernel
theorem dX9_ahead_34 : decode cX9_ahead 34 = .ok (.invokevirtual 173, 3) := by decide +kernel
theorem dX9_ahead_37 : decode cX9_ahead 37 = .ok (.iconst 0, 1) := by decide +kernel
theorem dX9_ahead_38 : decode cX9_ahead 38 = .ok (.istore_n 3, 1) := by decide +kernel
theorem dX9_ahead_39 : decode cX9_ahead 39 = .ok (.iconst 0, 1) := by decide +kernel
theorem dX9_ahead_40 : decode cX9_ahead 40 = .ok (.istore 4, 2) := by decide +kernel
theorem dX9_ahead_42 : decode cX9_ahead 42 = .ok (.iload 4, 2) := by decide +kernel
theorem dX9_ahead_44 : decode cX9_ahead 44 = .ok (.iload_n 1, 1) := by decide +kernel
theorem dX9_ahead_45 : decode cX9_ahead 45 = .ok (.if_icmp .ge 18, 3) := by decide +kernel
theorem dX9_ahead_48 : decode cX9_ahead 48 = .ok (.aload_n 0, 1) := by decide +kernel
theorem dX9_ahead_49 : decode cX9_ahead 49 = .ok (.aload_n 0, 1) := by decide +kernel
theorem dX9_ahead_50 : decode cX9_ahead 50 = .ok (.getfield 29, 3) := by decide +kernel
theorem dX9_ahead_53 : decode cX9_ahead 53 = .ok (.invokevirtual 166, 3) := by decide +kernel
theorem dX9_ahead_56 : decode cX9_ahead 56 = .ok (.istore_n 3, 1) := by decide +kernel
theorem dX9_ahead_57 : decode cX9_ahead 57 = .ok (.iinc 4 1, 3) := by decide +kernel
theorem dX9_ahead_60 : decode cX9_ahead 60 = .ok (.goto (-18), 3) := by decide +kernel
theorem dX9_ahead_63 : decode cX9_ahead 63 = .ok (.iload_n 2, 1) := by decide +kernel
theorem dX9_ahead_64 : decode cX9_ahead 64 = .ok (.ifCond .ne 7, 3) := by decide +kernel
theorem dX9_ahead_67 : decode cX9_ahead 67 = .ok (.iload_n 3, 1) := by decide +kernel
theorem dX9_ahead_68 : decode cX9_ahead 68 = .ok (.goto 10, 3) := by decide +kernel
theorem dX9_ahead_71 : decode cX9_ahead 71 = .ok (.aload_n 0, 1) := by decide +kernel
theorem dX9_ahead_72 : decode cX9_ahead 72 = .ok (.getfield 29, 3) := by decide +kernel
theorem dX9_ahead_75 : decode cX9_ahead 75 = .ok (.invokestatic 176, 3) := by decide +kernel
theorem dX9_ahead_78 : decode cX9_ahead 78 = .ok (.ireturn, 1) := by decide +kernel
def R_X9_ahead (a1 : Int32) (a2 : Int32) (σ : kS) (x : Int32) (τ : kS) : Prop := Run SM jX9_ahead [(.ref 0), (.int a1), (.int a2)] σ (some (.int x)) τ
def E_X9_ahead_42 (l1 : Int32) (l2 : Int32) (l3 : Int32) (l4 : Int32) (σ : kS) (x : Int32) (τ : kS) : Prop := Ex SM jX9_ahead 42 [some (.ref 0), some (.int l1), some (.int l2), some (.int l3), some (.int l4)] [] σ (some (.int x)) τ
set_option maxRecDepth 20000 in
theorem t_X9_ahead {a1 : Int32} {a2 : Int32} {σ : kS} {x : Int32} {τ : kS}  (h : (¬ (iv a2 (0 : Int32) (1 : Int32)) → x = (-1 : Int32) ∧ τ = σ) ∧ ((iv a2 (0 : Int32) (1 : Int32)) → ((iv a1 ((1 : Int32) - a2) (60 : Int32)) → ((0 < (σ.1 5 1)) → ∃ s4 : kS, R_X9_begin  σ s4 ∧ (E_X9_ahead_42 a1 a2 (0 : Int32) (0 : Int32) s4 x τ)) ∧ (¬ (0 < (σ.1 5 1)) → x = (-2 : Int32) ∧ τ = σ)) ∧ (¬ (iv a1 ((1 : Int32) - a2) (60 : Int32)) → x = (-1 : Int32) ∧ τ = σ))) : R_X9_ahead a1 a2 σ x τ := by
  refine x_run [some (.ref 0), some (.int a1), some (.int a2), none, none] (by decide +kernel) rfl (Nat.le_of_ble_eq_true rfl) ?_
  refine x_iload_n (pc := 0) 2 dX9_ahead_0 rfl rfl ?_
  refine x_iconst (pc := 1) (0 : Int32) dX9_ahead_1 (by decide +kernel) ?_
  refine x_iconst (pc := 2) (1 : Int32) dX9_ahead_2 (by decide +kernel) ?_
  refine x_callS (pc := 3) [(.int a2), (.int (0 : Int32)), (.int (1 : Int32))] [] dX9_ahead_3 ⟨⟨hX9_in.1, hX9_in.2.1, hX9_in.2.2, by decide⟩, mX9_54, sX9_in⟩ rfl rfl (Nat.le_of_ble_eq_true rfl) (i_X9_in) ?_
  refine x_bif_eq (pc := 6) 21 dX9_ahead_6 (by decide) (fun c1 => ?_) (fun c1 => ?_)
  · replace h := h.1 c1
    refine x_iconst (pc := 21) (-1 : Int32) dX9_ahead_21 (by decide +kernel) ?_
    exact x_ireturn2 (pc := 22) dX9_ahead_22 rfl h.1 h.2
  · replace h := h.2 c1
    refine x_iload_n (pc := 9) 1 dX9_ahead_9 rfl rfl ?_
    refine x_iconst (pc := 10) (1 : Int32) dX9_ahead_10 (by decide +kernel) ?_
    refine x_iload_n (pc := 11) 2 dX9_ahead_11 rfl rfl ?_
    refine x_isub (pc := 12) dX9_ahead_12 ?_
    refine x_bipush (pc := 13) (60 : Int32) dX9_ahead_13 (by decide +kernel) ?_
    refine x_callS (pc := 15) [(.int a1), (.int ((1 : Int32) - a2)), (.int (60 : Int32))] [] dX9_ahead_15 ⟨⟨hX9_in.1, hX9_in.2.1, hX9_in.2.2, by decide⟩, mX9_54, sX9_in⟩ rfl rfl (Nat.le_of_ble_eq_true rfl) (i_X9_in) ?_
    refine x_bif_ne (pc := 18) 23 dX9_ahead_18 (by decide) (fun c2 => ?_) (fun c2 => ?_)
    · replace h := h.1 c2
      refine x_aload_n (pc := 23) 0 dX9_ahead_23 rfl rfl ?_
      refine x_callV (pc := 24) [] [] dX9_ahead_24 ⟨⟨hX9_isThere.1, hX9_isThere.2.1, hX9_isThere.2.2, by decide⟩, mX9_110, vX9_isThere.1, vX9_isThere.2⟩ (ci := 9) rfl rfl rfl rfl (Nat.le_of_ble_eq_true rfl) (i_X9_isThere) ?_
      refine x_bif_ne (pc := 27) 33 dX9_ahead_27 (by decide) (fun c3 => ?_) (fun c3 => ?_)
      · replace h := h.1 c3
        refine x_aload_n (pc := 33) 0 dX9_ahead_33 rfl rfl ?_
        obtain ⟨s4, hr, h⟩ := h
        refine x_callV (pc := 34) [] [] dX9_ahead_34 ⟨⟨hX9_begin.1, hX9_begin.2.1, hX9_begin.2.2, by decide⟩, mX9_173, vX9_begin.1, vX9_begin.2⟩ (ci := 9) rfl rfl rfl rfl (Nat.le_of_ble_eq_true rfl) hr ?_
        refine x_iconst (pc := 37) (0 : Int32) dX9_ahead_37 (by decide +kernel) ?_
        refine x_istore_n (pc := 38) 3 dX9_ahead_38 rfl (by decide) rfl ?_
        refine x_iconst (pc := 39) (0 : Int32) dX9_ahead_39 (by decide +kernel) ?_
        refine x_istore (pc := 40) dX9_ahead_40 (by decide) rfl ?_
        exact h
      · replace h := h.2 c3
        refine x_bipush (pc := 30) (-2 : Int32) dX9_ahead_30 (by decide +kernel) ?_
        exact x_ireturn2 (pc := 32) dX9_ahead_32 rfl h.1 h.2
    · replace h := h.2 c2
      refine x_iconst (pc := 21) (-1 : Int32) dX9_ahead_21 (by decide +kernel) ?_
      exact x_ireturn2 (pc := 22) dX9_ahead_22 rfl h.1 h.2
set_option maxRecDepth 20000 in
theorem t_X9_ahead_42 {l1 : Int32} {l2 : Int32} {l3 : Int32} {l4 : Int32} {σ : kS} {x : Int32} {τ : kS}  (h : (l1 ≤ l4 → (¬ l2 = 0 → ∃ (x4 : Int32) (s3 : kS), R_X9_tiredOf 7 σ x4 s3 ∧ (x = x4 ∧ τ = s3)) ∧ (l2 = 0 → x = l3 ∧ τ = σ)) ∧ (¬ l1 ≤ l4 → ∃ (x6 : Int32) (s5 : kS), R_X9_hourIn 7 σ x6 s5 ∧ (E_X9_ahead_42 l1 l2 x6 (l4 + (1 : Int32)) s5 x τ))) : E_X9_ahead_42 l1 l2 l3 l4 σ x τ := by
  unfold E_X9_ahead_42
  refine x_iload (pc := 42) dX9_ahead_42 rfl ?_
  refine x_iload_n (pc := 44) 1 dX9_ahead_44 rfl rfl ?_
  refine x_icmp_ge (pc := 45) 63 dX9_ahead_45 (by decide) (fun c1 => ?_) (fun c1 => ?_)
  · replace h := h.1 c1
    refine x_iload_n (pc := 63) 2 dX9_ahead_63 rfl rfl ?_
    refine x_if_ne (pc := 64) 71 dX9_ahead_64 (by decide) (fun c2 => ?_) (fun c2 => ?_)
    · replace h := h.1 c2
      refine x_aload_n (pc := 71) 0 dX9_ahead_71 rfl rfl ?_
      refine x_getR (pc := 72) dX9_ahead_72 fX9_29 rfl rfl ?_
      obtain ⟨x4, s3, hr, h⟩ := h
      refine x_callS (pc := 75) [(.ref 7)] [] dX9_ahead_75 ⟨⟨hX9_tiredOf.1, hX9_tiredOf.2.1, hX9_tiredOf.2.2, by decide⟩, mX9_176, sX9_tiredOf⟩ rfl rfl (Nat.le_of_ble_eq_true rfl) hr ?_
      exact x_ireturn2 (pc := 78) dX9_ahead_78 rfl h.1 h.2
    · replace h := h.2 c2
      refine x_iload_n (pc := 67) 3 dX9_ahead_67 rfl rfl ?_
      refine x_goto (pc := 68) 78 dX9_ahead_68 (by decide) ?_
      exact x_ireturn2 (pc := 78) dX9_ahead_78 rfl h.1 h.2
  · replace h := h.2 c1
    refine x_aload_n (pc := 48) 0 dX9_ahead_48 rfl rfl ?_
    refine x_aload_n (pc := 49) 0 dX9_ahead_49 rfl rfl ?_
    refine x_getR (pc := 50) dX9_ahead_50 fX9_29 rfl rfl ?_
    obtain ⟨x6, s5, hr, h⟩ := h
    refine x_callV (pc := 53) [(.ref 7)] [] dX9_ahead_53 ⟨⟨hX9_hourIn.1, hX9_hourIn.2.1, hX9_hourIn.2.2, by decide⟩, mX9_166, vX9_hourIn.1, vX9_hourIn.2⟩ (ci := 9) rfl rfl rfl rfl (Nat.le_of_ble_eq_true rfl) hr ?_
    refine x_istore_n (pc := 56) 3 dX9_ahead_56 rfl (by decide) rfl ?_
    refine x_iinc (pc := 57) (1 : Int32) dX9_ahead_57 (by decide) rfl rfl (by decide +kernel) ?_
    refine x_goto (pc := 60) 42 dX9_ahead_60 (by decide) ?_
    exact h
theorem dX9_fills_0 : decode cX9_fills 0 = .ok (.aload_n 0, 1) := by decide +kernel
theorem dX9_fills_1 : decode cX9_fills 1 = .ok (.iload_n 1, 1) := by decide +kernel
theorem dX9_fills_2 : decode cX9_fills 2 = .ok (.invokevirtual 121, 3) := by decide +kernel
theorem dX9_fills_5 : decode cX9_fills 5 = .ok (.ifCond .ne 5, 3) := by decide +kernel
theorem dX9_fills_8 : decode cX9_fills 8 = .ok (.iconst (-1), 1) := by decide +kernel
theorem dX9_fills_9 : decode cX9_fills 9 = .ok (.ireturn, 1) := by decide +kernel
theorem dX9_fills_10 : decode cX9_fills 10 = .ok (.bipush (-4), 2) := by decide +kernel
theorem dX9_fills_12 : decode cX9_fills 12 = .ok (.istore_n 2, 1) := by decide +kernel
theorem dX9_fills_13 : decode cX9_fills 13 = .ok (.iconst 0, 1) := by decide +kernel
theorem dX9_fills_14 : decode cX9_fills 14 = .ok (.istore_n 3, 1) := by decide +kernel
theorem dX9_fills_15 : decode cX9_fills 15 = .ok (.iload_n 3, 1) := by decide +kernel
theorem dX9_fills_16 : decode cX9_fills 16 = .ok (.iconst 1, 1) := by decide +kernel
theorem dX9_fills_17 : decode cX9_fills 17 = .ok (.aload_n 0, 1) := by decide +kernel
theorem dX9_fills_18 : decode cX9_fills 18 = .ok (.getfield 23, 3) := by decide +kernel
theorem dX9_fills_21 : decode cX9_fills 21 = .ok (.iconst 3, 1) := by decide +kernel
theorem dX9_fills_22 : decode cX9_fills 22 = .ok (.iaload, 1) := by decide +kernel
theorem dX9_fills_23 : decode cX9_fills 23 = .ok (.ishl, 1) := by decide +kernel
theorem dX9_fills_24 : decode cX9_fills 24 = .ok (.if_icmp .ge 57, 3) := by decide +kernel
theorem dX9_fills_27 : decode cX9_fills 27 = .ok (.iload_n 2, 1) := by decide +kernel
theorem dX9_fills_28 : decode cX9_fills 28 = .ok (.bipush (-4), 2) := by decide +kernel
theorem dX9_fills_30 : decode cX9_fills 30 = .ok (.if_icmp .eq 14, 3) := by decide +kernel
theorem dX9_fills_33 : decode cX9_fills 33 = .ok (.iload_n 3, 1) := by decide +kernel
theorem dX9_fills_34 : decode cX9_fills 34 = .ok (.invokestatic 76, 3) := by decide +kernel
theorem dX9_fills_37 : decode cX9_fills 37 = .ok (.iload_n 2, 1) := by decide +kernel
theorem dX9_fills_38 : decode cX9_fills 38 = .ok (.invokestatic 76, 3) := by decide +kernel
theorem dX9_fills_41 : decode cX9_fills 41 = .ok (.if_icmp .ge 7, 3) := by decide +kernel
theorem dX9_fills_44 : decode cX9_fills 44 = .ok (.iconst 1, 1) := by decide +kernel
theorem dX9_fills_45 : decode cX9_fills 45 = .ok (.goto 4, 3) := by decide +kernel
theorem dX9_fills_48 : decode cX9_fills 48 = .ok (.iconst 0, 1) := by decide +kernel
theorem dX9_fills_49 : decode cX9_fills 49 = .ok (.istore 4, 2) := by decide +kernel
theorem dX9_fills_51 : decode cX9_fills 51 = .ok (.iload 4, 2) := by decide +kernel
theorem dX9_fills_53 : decode cX9_fills 53 = .ok (.ifCond .eq 20, 3) := by decide +kernel
theorem dX9_fills_56 : decode cX9_fills 56 = .ok (.aload_n 0, 1) := by decide +kernel
theorem dX9_fills_57 : decode cX9_fills 57 = .ok (.aload_n 0, 1) := by decide +kernel
theorem dX9_fills_58 : decode cX9_fills 58 = .ok (.getfield 23, 3) := by decide +kernel
theorem dX9_fills_61 : decode cX9_fills 61 = .ok (.iload_n 1, 1) := by decide +kernel
theorem dX9_fills_62 : decode cX9_fills 62 = .ok (.iload_n 3, 1) := by decide +kernel
theorem dX9_fills_63 : decode cX9_fills 63 = .ok (.invokevirtual 153, 3) := by decide +kernel
theorem dX9_fills_66 : decode cX9_fills 66 = .ok (.ifCond .ne 7, 3) := by decide +kernel
theorem dX9_fills_69 : decode cX9_fills 69 = .ok (.iload_n 3, 1) := by decide +kernel
theorem dX9_fills_70 : decode cX9_fills 70 = .ok (.goto 4, 3) := by decide +kernel
theorem dX9_fills_73 : decode cX9_fills 73 = .ok (.iload_n 2, 1) := by decide +kernel
theorem dX9_fills_74 : decode cX9_fills 74 = .ok (.istore_n 2, 1) := by decide +kernel
theorem dX9_fills_75 : decode cX9_fills 75 = .ok (.iinc 3 1, 3) := by decide +kernel
theorem dX9_fills_78 : decode cX9_fills 78 = .ok (.goto (-63), 3) := by decide +kernel
theorem dX9_fills_81 : decode cX9_fills 81 = .ok (.iload_n 2, 1) := by decide +kernel
theorem dX9_fills_82 : decode cX9_fills 82 = .ok (.ireturn, 1) := by decide +kernel
def R_X9_fills (a1 : Int32) (σ : kS) (x : Int32) (τ : kS) : Prop := Run SM jX9_fills [(.ref 0), (.int a1)] σ (some (.int x)) τ
def E_X9_fills_15 (l1 : Int32) (l2 : Int32) (l3 : Int32) (σ : kS) (x : Int32) (τ : kS) : Prop := Ex SM jX9_fills 15 [some (.ref 0), some (.int l1), some (.int l2), some (.int l3), none] [] σ (some (.int x)) τ
def E_X9_fills_49 (l1 : Int32) (l2 : Int32) (l3 : Int32) (y0 : Int32) (σ : kS) (x : Int32) (τ : kS) : Prop := Ex SM jX9_fills 49 [some (.ref 0), some (.int l1), some (.int l2), some (.int l3), none] [(.int y0)] σ (some (.int x)) τ
set_option maxRecDepth 20000 in
theorem t_X9_fills {a1 : Int32} {σ : kS} {x : Int32} {τ : kS}  (h : ((iv a1 0 ((σ.1 5 2) - 1)) → E_X9_fills_15 a1 (-4 : Int32) (0 : Int32) σ x τ) ∧ (¬ (iv a1 0 ((σ.1 5 2) - 1)) → x = (-1 : Int32) ∧ τ = σ)) : R_X9_fills a1 σ x τ := by
  refine x_run [some (.ref 0), some (.int a1), none, none, none] (by decide +kernel) rfl (Nat.le_of_ble_eq_true rfl) ?_
  refine x_aload_n (pc := 0) 0 dX9_fills_0 rfl rfl ?_
  refine x_iload_n (pc := 1) 1 dX9_fills_1 rfl rfl ?_
  refine x_callV (pc := 2) [(.int a1)] [] dX9_fills_2 ⟨⟨hX9_isField.1, hX9_isField.2.1, hX9_isField.2.2, by decide⟩, mX9_121, vX9_isField.1, vX9_isField.2⟩ (ci := 9) rfl rfl rfl rfl (Nat.le_of_ble_eq_true rfl) (i_X9_isField) ?_
  refine x_bif_ne (pc := 5) 10 dX9_fills_5 (by decide) (fun c1 => ?_) (fun c1 => ?_)
  · replace h := h.1 c1
    refine x_bipush (pc := 10) (-4 : Int32) dX9_fills_10 (by decide +kernel) ?_
    refine x_istore_n (pc := 12) 2 dX9_fills_12 rfl (by decide) rfl ?_
    refine x_iconst (pc := 13) (0 : Int32) dX9_fills_13 (by decide +kernel) ?_
    refine x_istore_n (pc := 14) 3 dX9_fills_14 rfl (by decide) rfl ?_
    exact h
  · replace h := h.2 c1
    refine x_iconst (pc := 8) (-1 : Int32) dX9_fills_8 (by decide +kernel) ?_
    exact x_ireturn2 (pc := 9) dX9_fills_9 rfl h.1 h.2
set_option maxRecDepth 20000 in
theorem t_X9_fills_15 {l1 : Int32} {l2 : Int32} {l3 : Int32} {σ : kS} {x : Int32} {τ : kS}  (h : (((1 : Int32) <<< ((σ.1 5 3) &&& 31)) ≤ l3 → x = l2 ∧ τ = σ) ∧ (¬ ((1 : Int32) <<< ((σ.1 5 3) &&& 31)) ≤ l3 → (l2 = (-4 : Int32) → E_X9_fills_49 l1 l2 l3 (1 : Int32) σ x τ) ∧ (¬ l2 = (-4 : Int32) → ∃ (x4 : Int32) (s3 : kS), R_X9_bits l3 σ x4 s3 ∧ (∃ (x6 : Int32) (s5 : kS), R_X9_bits l2 s3 x6 s5 ∧ ((x6 ≤ x4 → E_X9_fills_49 l1 l2 l3 (0 : Int32) s5 x τ) ∧ (¬ x6 ≤ x4 → E_X9_fills_49 l1 l2 l3 (1 : Int32) s5 x τ)))))) : E_X9_fills_15 l1 l2 l3 σ x τ := by
  unfold E_X9_fills_15
  refine x_iload_n (pc := 15) 3 dX9_fills_15 rfl rfl ?_
  refine x_iconst (pc := 16) (1 : Int32) dX9_fills_16 (by decide +kernel) ?_
  refine x_aload_n (pc := 17) 0 dX9_fills_17 rfl rfl ?_
  refine x_getR (pc := 18) dX9_fills_18 fX9_23 rfl rfl ?_
  refine x_iconst (pc := 21) (3 : Int32) dX9_fills_21 (by decide +kernel) ?_
  refine x_ialoadK (pc := 22) (n := 38) 3 dX9_fills_22 rfl (by decide) (by decide +kernel) ?_
  refine x_ishl (pc := 23) dX9_fills_23 ?_
  refine x_icmp_ge (pc := 24) 81 dX9_fills_24 (by decide) (fun c1 => ?_) (fun c1 => ?_)
  · replace h := h.1 c1
    refine x_iload_n (pc := 81) 2 dX9_fills_81 rfl rfl ?_
    exact x_ireturn2 (pc := 82) dX9_fills_82 rfl h.1 h.2
  · replace h := h.2 c1
    refine x_iload_n (pc := 27) 2 dX9_fills_27 rfl rfl ?_
    refine x_bipush (pc := 28) (-4 : Int32) dX9_fills_28 (by decide +kernel) ?_
    refine x_icmp_eq (pc := 30) 44 dX9_fills_30 (by decide) (fun c2 => ?_) (fun c2 => ?_)
    · replace h := h.1 c2
      refine x_iconst (pc := 44) (1 : Int32) dX9_fills_44 (by decide +kernel) ?_
      refine x_goto (pc := 45) 49 dX9_fills_45 (by decide) ?_
      exact h
    · replace h := h.2 c2
      refine x_iload_n (pc := 33) 3 dX9_fills_33 rfl rfl ?_
      obtain ⟨x4, s3, hr, h⟩ := h
      refine x_callS (pc := 34) [(.int l3)] [] dX9_fills_34 ⟨⟨hX9_bits.1, hX9_bits.2.1, hX9_bits.2.2, by decide⟩, mX9_76, sX9_bits⟩ rfl rfl (Nat.le_of_ble_eq_true rfl) hr ?_
      refine x_iload_n (pc := 37) 2 dX9_fills_37 rfl rfl ?_
      obtain ⟨x6, s5, hr, h⟩ := h
      refine x_callS (pc := 38) [(.int l2)] [(.int x4)] dX9_fills_38 ⟨⟨hX9_bits.1, hX9_bits.2.1, hX9_bits.2.2, by decide⟩, mX9_76, sX9_bits⟩ rfl rfl (Nat.le_of_ble_eq_true rfl) hr ?_
      refine x_icmp_ge (pc := 41) 48 dX9_fills_41 (by decide) (fun c7 => ?_) (fun c7 => ?_)
      · replace h := h.1 c7
        refine x_iconst (pc := 48) (0 : Int32) dX9_fills_48 (by decide +kernel) ?_
        exact h
      · replace h := h.2 c7
        refine x_iconst (pc := 44) (1 : Int32) dX9_fills_44 (by decide +kernel) ?_
        refine x_goto (pc := 45) 49 dX9_fills_45 (by decide) ?_
        exact h
set_option maxRecDepth 20000 in
theorem t_X9_fills_49 {l1 : Int32} {l2 : Int32} {l3 : Int32} {y0 : Int32} {σ : kS} {x : Int32} {τ : kS}  (h : (y0 = 0 → E_X9_fills_15 l1 l2 (l3 + (1 : Int32)) σ x τ) ∧ (¬ y0 = 0 → ∃ (x3 : Int32) (s2 : kS), R_X9_singIn 5 l1 l3 σ x3 s2 ∧ ((¬ x3 = 0 → E_X9_fills_15 l1 l2 (l3 + (1 : Int32)) s2 x τ) ∧ (x3 = 0 → E_X9_fills_15 l1 l3 (l3 + (1 : Int32)) s2 x τ)))) : E_X9_fills_49 l1 l2 l3 y0 σ x τ := by
  unfold E_X9_fills_49
  refine x_istore (pc := 49) dX9_fills_49 (by decide) rfl ?_
  refine x_iload (pc := 51) dX9_fills_51 rfl ?_
  refine x_if_eq (pc := 53) 73 dX9_fills_53 (by decide) (fun c1 => ?_) (fun c1 => ?_)
  · replace h := h.1 c1
    refine x_iload_n (pc := 73) 2 dX9_fills_73 rfl rfl ?_
    refine x_istore_n (pc := 74) 2 dX9_fills_74 rfl (by decide) rfl ?_
    refine x_iinc (pc := 75) (1 : Int32) dX9_fills_75 (by decide) rfl rfl (by decide +kernel) ?_
    refine x_goto (pc := 78) 15 dX9_fills_78 (by decide) ?_
    exact x_mask [true, true, true, true, false] h
  · replace h := h.2 c1
    refine x_aload_n (pc := 56) 0 dX9_fills_56 rfl rfl ?_
    refine x_aload_n (pc := 57) 0 dX9_fills_57 rfl rfl ?_
    refine x_getR (pc := 58) dX9_fills_58 fX9_23 rfl rfl ?_
    refine x_iload_n (pc := 61) 1 dX9_fills_61 rfl rfl ?_
    refine x_iload_n (pc := 62) 3 dX9_fills_62 rfl rfl ?_
    obtain ⟨x3, s2, hr, h⟩ := h
    refine x_callV (pc := 63) [(.ref 5), (.int l1), (.int l3)] [] dX9_fills_63 ⟨⟨hX9_singIn.1, hX9_singIn.2.1, hX9_singIn.2.2, by decide⟩, mX9_153, vX9_singIn.1, vX9_singIn.2⟩ (ci := 9) rfl rfl rfl rfl (Nat.le_of_ble_eq_true rfl) hr ?_
    refine x_if_ne (pc := 66) 73 dX9_fills_66 (by decide) (fun c4 => ?_) (fun c4 => ?_)
    · replace h := h.1 c4
      refine x_iload_n (pc := 73) 2 dX9_fills_73 rfl rfl ?_
      refine x_istore_n (pc := 74) 2 dX9_fills_74 rfl (by decide) rfl ?_
      refine x_iinc (pc := 75) (1 : Int32) dX9_fills_75 (by decide) rfl rfl (by decide +kernel) ?_
      refine x_goto (pc := 78) 15 dX9_fills_78 (by decide) ?_
      exact x_mask [true, true, true, true, false] h
    · replace h := h.2 c4
      refine x_iload_n (pc := 69) 3 dX9_fills_69 rfl rfl ?_
      refine x_goto (pc := 70) 74 dX9_fills_70 (by decide) ?_
      refine x_istore_n (pc := 74) 2 dX9_fills_74 rfl (by decide) rfl ?_
      refine x_iinc (pc := 75) (1 : Int32) dX9_fills_75 (by decide) rfl rfl (by decide +kernel) ?_
      refine x_goto (pc := 78) 15 dX9_fills_78 (by decide) ?_
      exact x_mask [true, true, true, true, false] h
theorem dX9_layStands_0 : decode cX9_layStands 0 = .ok (.aload_n 0, 1) := by decide +kernel
theorem dX9_layStands_1 : decode cX9_layStands 1 = .ok (.getfield 23, 3) := by decide +kernel
theorem dX9_layStands_4 : decode cX9_layStands 4 = .ok (.iconst 2, 1) := by decide +kernel
theorem dX9_layStands_5 : decode cX9_layStands 5 = .ok (.iaload, 1) := by decide +kernel
theorem dX9_layStands_6 : decode cX9_layStands 6 = .ok (.iconst 1, 1) := by decide +kernel
theorem dX9_layStands_7 : decode cX9_layStands 7 = .ok (.iadd, 1) := by decide +kernel
theorem dX9_layStands_8 : decode cX9_layStands 8 = .ok (.istore_n 1, 1) := by decide +kernel
theorem dX9_layStands_9 : decode cX9_layStands 9 = .ok (.iconst 1, 1) := by decide +kernel
theorem dX9_layStands_10 : decode cX9_layStands 10 = .ok (.istore_n 2, 1) := by decide +kernel
theorem dX9_layStands_11 : decode cX9_layStands 11 = .ok (.iconst 0, 1) := by decide +kernel
theorem dX9_layStands_12 : decode cX9_layStands 12 = .ok (.istore_n 3, 1) := by decide +kernel
theorem dX9_layStands_13 : decode cX9_layStands 13 = .ok (.iload_n 3, 1) := by decide +kernel
theorem dX9_layStands_14 : decode cX9_layStands 14 = .ok (.aload_n 0, 1) := by decide +kernel
theorem dX9_layStands_15 : decode cX9_layStands 15 = .ok (.getfield 23, 3) := by decide +kernel
theorem dX9_layStands_18 : decode cX9_layStands 18 = .ok (.iconst 3, 1) := by decide +kernel
theorem dX9_layStands_19 : decode cX9_layStands 19 = .ok (.iaload, 1) := by decide +kernel
theorem dX9_layStands_20 : decode cX9_layStands 20 = .ok (.if_icmp .ge 13, 3) := by decide +kernel
theorem dX9_layStands_23 : decode cX9_layStands 23 = .ok (.iload_n 2, 1) := by decide +kernel
theorem dX9_layStands_24 : decode cX9_layStands 24 = .ok (.iload_n 1, 1) := by decide +kernel
theorem dX9_layStands_25 : decode cX9_layStands 25 = .ok (.imul, 1) := by decide +kernel
theorem dX9_layStands_26 : decode cX9_layStands 26 = .ok (.istore_n 2, 1) := by decide +kernel
theorem dX9_layStands_27 : decode cX9_layStands 27 = .ok (.iinc 3 1, 3) := by decide +kernel
theorem dX9_layStands_30 : decode cX9_layStands 30 = .ok (.goto (-17), 3) := by decide +kernel
theorem dX9_layStands_33 : decode cX9_layStands 33 = .ok (.aload_n 0, 1) := by decide +kernel
theorem dX9_layStands_34 : decode cX9_layStands 34 = .ok (.iconst (-1), 1) := by decide +kernel
theorem dX9_layStands_35 : decode cX9_layStands 35 = .ok (.putfield 179, 3) := by decide +kernel
theorem dX9_layStands_38 : decode cX9_layStands 38 = .ok (.iconst 0, 1) := by decide +kernel
theorem dX9_layStands_39 : decode cX9_layStands 39 = .ok (.istore_n 3, 1) := by decide +kernel
theorem dX9_layStands_40 : decode cX9_layStands 40 = .ok (.iload_n 3, 1) := by decide +kernel
theorem dX9_layStands_41 : decode cX9_layStands 41 = .ok (.iload_n 2, 1) := by decide +kernel
theorem dX9_layStands_42 : decode cX9_layStands 42 = .ok (.if_icmp .ge 199, 3) := by decide +kernel
theorem dX9_layStands_45 : decode cX9_layStands 45 = .ok (.aload_n 0, 1) := by decide +kernel
theorem dX9_layStands_46 : decode cX9_layStands 46 = .ok (.invokevirtual 173, 3) := by decide +kernel
theorem dX9_layStands_49 : decode cX9_layStands 49 = .ok (.iload_n 3, 1) := by decide +kernel
theorem dX9_layStands_50 : decode cX9_layStands 50 = .ok (.istore 4, 2) := by decide +kernel
theorem dX9_layStands_52 : decode cX9_layStands 52 = .ok (.aload_n 0, 1) := by decide +kernel
theorem dX9_layStands_53 : decode cX9_layStands 53 = .ok (.getfield 23, 3) := by decide +kernel
theorem dX9_layStands_56 : decode cX9_layStands 56 = .ok (.iconst 3, 1) := by decide +kernel
theorem dX9_layStands_57 : decode cX9_layStands 57 = .ok (.iaload, 1) := by decide +kernel
theorem dX9_layStands_58 : decode cX9_layStands 58 = .ok (.iconst 1, 1) := by decide +kernel
theorem dX9_layStands_59 : decode cX9_layStands 59 = .ok (.isub, 1) := by decide +kernel
theorem dX9_layStands_60 : decode cX9_layStands 60 = .ok (.istore 5, 2) := by decide +kernel
theorem dX9_layStands_62 : decode cX9_layStands 62 = .ok (.iload 5, 2) := by decide +kernel
theorem dX9_layStands_64 : decode cX9_layStands 64 = .ok (.ifCond .lt 47, 3) := by decide +kernel
theorem dX9_layStands_67 : decode cX9_layStands 67 = .ok (.aload_n 0, 1) := by decide +kernel
theorem dX9_layStands_68 : decode cX9_layStands 68 = .ok (.getfield 29, 3) := by decide +kernel
theorem dX9_layStands_71 : decode cX9_layStands 71 = .ok (.bipush 33, 2) := by decide +kernel
theorem dX9_layStands_73 : decode cX9_layStands 73 = .ok (.iload 5, 2) := by decide +kernel
theorem dX9_layStands_75 : decode cX9_layStands 75 = .ok (.iadd, 1) := by decide +kernel
theorem dX9_layStands_76 : decode cX9_layStands 76 = .ok (.iload 4, 2) := by decide +kernel
theorem dX9_layStands_78 : decode cX9_layStands 78 = .ok (.iload_n 1, 1) := by decide +kernel
theorem dX9_layStands_79 : decode cX9_layStands 79 = .ok (.irem, 1) := by decide +kernel
theorem dX9_layStands_80 : decode cX9_layStands 80 = .ok (.aload_n 0, 1) := by decide +kernel
theorem dX9_layStands_81 : decode cX9_layStands 81 = .ok (.getfield 23, 3) := by decide +kernel
theorem dX9_layStands_84 : decode cX9_layStands 84 = .ok (.iconst 2, 1) := by decide +kernel
theorem dX9_layStands_85 : decode cX9_layStands 85 = .ok (.iaload, 1) := by decide +kernel
theorem dX9_layStands_86 : decode cX9_layStands 86 = .ok (.if_icmp .ne 8, 3) := by decide +kernel
theorem dX9_layStands_89 : decode cX9_layStands 89 = .ok (.bipush (-4), 2) := by decide +kernel
theorem dX9_layStands_91 : decode cX9_layStands 91 = .ok (.goto 7, 3) := by decide +kernel
theorem dX9_layStands_94 : decode cX9_layStands 94 = .ok (.iload 4, 2) := by decide +kernel
theorem dX9_layStands_96 : decode cX9_layStands 96 = .ok (.iload_n 1, 1) := by decide +kernel
theorem dX9_layStands_97 : decode cX9_layStands 97 = .ok (.irem, 1) := by decide +kernel
theorem dX9_layStands_98 : decode cX9_layStands 98 = .ok (.iastore, 1) := by decide +kernel
theorem dX9_layStands_99 : decode cX9_layStands 99 = .ok (.iload 4, 2) := by decide +kernel
theorem dX9_layStands_101 : decode cX9_layStands 101 = .ok (.iload_n 1, 1) := by decide +kernel
theorem dX9_layStands_102 : decode cX9_layStands 102 = .ok (.idiv, 1) := by decide +kernel
theorem dX9_layStands_103 : decode cX9_layStands 103 = .ok (.istore 4, 2) := by decide +kernel
theorem dX9_layStands_105 : decode cX9_layStands 105 = .ok (.iinc 5 (-1), 3) := by decide +kernel
theorem dX9_layStands_108 : decode cX9_layStands 108 = .ok (.goto (-46), 3) := by decide +kernel
theorem dX9_layStands_111 : decode cX9_layStands 111 = .ok (.aload_n 0, 1) := by decide +kernel
theorem dX9_layStands_112 : decode cX9_layStands 112 = .ok (.aload_n 0, 1) := by decide +kernel
theorem dX9_layStands_113 : decode cX9_layStands 113 = .ok (.getfield 29, 3) := by decide +kernel
theorem dX9_layStands_116 : decode cX9_layStands 116 = .ok (.invokevirtual 156, 3) := by decide +kernel
theorem dX9_layStands_119 : decode cX9_layStands 119 = .ok (.invokestatic 76, 3) := by decide +kernel
theorem dX9_layStands_122 : decode cX9_layStands 122 = .ok (.istore 5, 2) := by decide +kernel
theorem dX9_layStands_124 : decode cX9_layStands 124 = .ok (.iconst 0, 1) := by decide +kernel
theorem dX9_layStands_125 : decode cX9_layStands 125 = .ok (.istore 6, 2) := by decide +kernel
theorem dX9_layStands_127 : decode cX9_layStands 127 = .ok (.iconst 0, 1) := by decide +kernel
theorem dX9_layStands_128 : decode cX9_layStands 128 = .ok (.istore 7, 2) := by decide +kernel
theorem dX9_layStands_130 : decode cX9_layStands 130 = .ok (.iload 7, 2) := by decide +kernel
theorem dX9_layStands_132 : decode cX9_layStands 132 = .ok (.aload_n 0, 1) := by decide +kernel
theorem dX9_layStands_133 : decode cX9_layStands 133 = .ok (.getfield 23, 3) := by decide +kernel
theorem dX9_layStands_136 : decode cX9_layStands 136 = .ok (.iconst 3, 1) := by decide +kernel
theorem dX9_layStands_137 : decode cX9_layStands 137 = .ok (.iaload, 1) := by decide +kernel
theorem dX9_layStands_138 : decode cX9_layStands 138 = .ok (.if_icmp .ge 43, 3) := by decide +kernel
theorem dX9_layStands_141 : decode cX9_layStands 141 = .ok (.iload 6, 2) := by decide +kernel
theorem dX9_layStands_143 : decode cX9_layStands 143 = .ok (.aload_n 0, 1) := by decide +kernel
theorem dX9_layStands_144 : decode cX9_layStands 144 = .ok (.getfield 42, 3) := by decide +kernel
theorem dX9_layStands_147 : decode cX9_layStands 147 = .ok (.iload 7, 2) := by decide +kernel
theorem dX9_layStands_149 : decode cX9_layStands 149 = .ok (.iaload, 1) := by decide +kernel
theorem dX9_layStands_150 : decode cX9_layStands 150 = .ok (.bipush 12, 2) := by decide +kernel
theorem dX9_layStands_152 : decode cX9_layStands 152 = .ok (.if_icmp .ne 7, 3) := by decide +kernel
theorem dX9_layStands_155 : decode cX9_layStands 155 = .ok (.iconst 0, 1) := by decide +kernel
theorem dX9_layStands_156 : decode cX9_layStands 156 = .ok (.goto 16, 3) := by decide +kernel
theorem dX9_layStands_159 : decode cX9_layStands 159 = .ok (.aload_n 0, 1) := by decide +kernel
theorem dX9_layStands_160 : decode cX9_layStands 160 = .ok (.getfield 23, 3) := by decide +kernel
theorem dX9_layStands_163 : decode cX9_layStands 163 = .ok (.bipush 13, 2) := by decide +kernel
theorem dX9_layStands_165 : decode cX9_layStands 165 = .ok (.iload 7, 2) := by decide +kernel
theorem dX9_layStands_167 : decode cX9_layStands 167 = .ok (.iadd, 1) := by decide +kernel
theorem dX9_layStands_168 : decode cX9_layStands 168 = .ok (.iaload, 1) := by decide +kernel
theorem dX9_layStands_169 : decode cX9_layStands 169 = .ok (.invokestatic 160, 3) := by decide +kernel
theorem dX9_layStands_172 : decode cX9_layStands 172 = .ok (.iadd, 1) := by decide +kernel
theorem dX9_layStands_173 : decode cX9_layStands 173 = .ok (.istore 6, 2) := by decide +kernel
theorem dX9_layStands_175 : decode cX9_layStands 175 = .ok (.iinc 7 1, 3) := by decide +kernel
theorem dX9_layStands_178 : decode cX9_layStands 178 = .ok (.goto (-48), 3) := by decide +kernel
theorem dX9_layStands_181 : decode cX9_layStands 181 = .ok (.iload 5, 2) := by decide +kernel
theorem dX9_layStands_183 : decode cX9_layStands 183 = .ok (.aload_n 0, 1) := by decide +kernel
theorem dX9_layStands_184 : decode cX9_layStands 184 = .ok (.getfield 179, 3) := by decide +kernel
theorem dX9_layStands_187 : decode cX9_layStands 187 = .ok (.if_icmp .gt 21, 3) := by decide +kernel
theorem dX9_layStands_190 : decode cX9_layStands 190 = .ok (.iload 5, 2) := by decide +kernel
theorem dX9_layStands_192 : decode cX9_layStands 192 = .ok (.aload_n 0, 1) := by decide +kernel
theorem dX9_layStands_193 : decode cX9_layStands 193 = .ok (.getfield 179, 3) := by decide +kernel
theorem dX9_layStands_196 : decode cX9_layStands 196 = .ok (.if_icmp .ne 39, 3) := by decide +kernel
theorem dX9_layStands_199 : decode cX9_layStands 199 = .ok (.iload 6, 2) := by decide +kernel
theorem dX9_layStands_201 : decode cX9_layStands 201 = .ok (.aload_n 0, 1) := by decide +kernel
theorem dX9_layStands_202 : decode cX9_layStands 202 = .ok (.getfield 182, 3) := by decide +kernel
theorem dX9_layStands_205 : decode cX9_layStands 205 = .ok (.if_icmp .ge 30, 3) := by decide +kernel
theorem dX9_layStands_208 : decode cX9_layStands 208 = .ok (.aload_n 0, 1) := by decide +kernel
theorem dX9_layStands_209 : decode cX9_layStands 209 = .ok (.iload 5, 2) := by decide +kernel
theorem dX9_layStands_211 : decode cX9_layStands 211 = .ok (.putfield 179, 3) := by decide +kernel
theorem dX9_layStands_214 : decode cX9_layStands 214 = .ok (.aload_n 0, 1) := by decide +kernel
theorem dX9_layStands_215 : decode cX9_layStands 215 = .ok (.iload 6, 2) := by decide +kernel
theorem dX9_layStands_217 : decode cX9_layStands 217 = .ok (.putfield 182, 3) := by decide +kernel
theorem dX9_layStands_220 : decode cX9_layStands 220 = .ok (.aload_n 0, 1) := by decide +kernel
theorem dX9_layStands_221 : decode cX9_layStands 221 = .ok (.getfield 29, 3) := by decide +kernel
theorem dX9_layStands_224 : decode cX9_layStands 224 = .ok (.bipush 33, 2) := by decide +kernel
theorem dX9_layStands_226 : decode cX9_layStands 226 = .ok (.aload_n 0, 1) := by decide +kernel
theorem dX9_layStands_227 : decode cX9_layStands 227 = .ok (.getfield 45, 3) := by decide +kernel
theorem dX9_layStands_230 : decode cX9_layStands 230 = .ok (.iconst 0, 1) := by decide +kernel
theorem dX9_layStands_231 : decode cX9_layStands 231 = .ok (.iconst 5, 1) := by decide +kernel
theorem dX9_layStands_232 : decode cX9_layStands 232 = .ok (.invokestatic 99, 3) := by decide +kernel
theorem dX9_layStands_235 : decode cX9_layStands 235 = .ok (.iinc 3 1, 3) := by decide +kernel
theorem dX9_layStands_238 : decode cX9_layStands 238 = .ok (.goto (-198), 3) := by decide +kernel
theorem dX9_layStands_241 : decode cX9_layStands 241 = .ok (.return_, 1) := by decide +kernel
def R_X9_layStands  (σ : kS) (τ : kS) : Prop := Run SM jX9_layStands [(.ref 0)] σ none τ
def E_X9_layStands_13 (l1 : Int32) (l2 : Int32) (l3 : Int32) (σ : kS) (τ : kS) : Prop := Ex SM jX9_layStands 13 [some (.ref 0), some (.int l1), some (.int l2), some (.int l3), none, none, none, none] [] σ none τ
def E_X9_layStands_40 (l1 : Int32) (l2 : Int32) (l3 : Int32) (σ : kS) (τ : kS) : Prop := Ex SM jX9_layStands 40 [some (.ref 0), some (.int l1), some (.int l2), some (.int l3), none, none, none, none] [] σ none τ
def E_X9_layStands_62 (l1 : Int32) (l2 : Int32) (l3 : Int32) (l4 : Int32) (l5 : Int32) (σ : kS) (τ : kS) : Prop := Ex SM jX9_layStands 62 [some (.ref 0), some (.int l1), some (.int l2), some (.int l3), some (.int l4), some (.int l5), none, none] [] σ none τ
def E_X9_layStands_130 (l1 : Int32) (l2 : Int32) (l3 : Int32) (l5 : Int32) (l6 : Int32) (l7 : Int32) (σ : kS) (τ : kS) : Prop := Ex SM jX9_layStands 130 [some (.ref 0), some (.int l1), some (.int l2), some (.int l3), none, some (.int l5), some (.int l6), some (.int l7)] [] σ none τ
def E_X9_layStands_208 (l1 : Int32) (l2 : Int32) (l3 : Int32) (l5 : Int32) (l6 : Int32) (σ : kS) (τ : kS) : Prop := Ex SM jX9_layStands 208 [some (.ref 0), some (.int l1), some (.int l2), some (.int l3), none, some (.int l5), some (.int l6), none] [] σ none τ
set_option maxRecDepth 20000 in
theorem t_X9_layStands  {σ : kS} {τ : kS}  (h : E_X9_layStands_13 ((σ.1 5 2) + (1 : Int32)) (1 : Int32) (0 : Int32) σ τ) : R_X9_layStands  σ τ := by
  refine x_run [some (.ref 0), none, none, none, none, none, none, none] (by decide +kernel) rfl (Nat.le_of_ble_eq_true rfl) ?_
  refine x_aload_n (pc := 0) 0 dX9_layStands_0 rfl rfl ?_
  refine x_getR (pc := 1) dX9_layStands_1 fX9_23 rfl rfl ?_
  refine x_iconst (pc := 4) (2 : Int32) dX9_layStands_4 (by decide +kernel) ?_
  refine x_ialoadK (pc := 5) (n := 38) 2 dX9_layStands_5 rfl (by decide) (by decide +kernel) ?_
  refine x_iconst (pc := 6) (1 : Int32) dX9_layStands_6 (by decide +kernel) ?_
  refine x_iadd (pc := 7) dX9_layStands_7 ?_
  refine x_istore_n (pc := 8) 1 dX9_layStands_8 rfl (by decide) rfl ?_
  refine x_iconst (pc := 9) (1 : Int32) dX9_layStands_9 (by decide +kernel) ?_
  refine x_istore_n (pc := 10) 2 dX9_layStands_10 rfl (by decide) rfl ?_
  refine x_iconst (pc := 11) (0 : Int32) dX9_layStands_11 (by decide +kernel) ?_
  refine x_istore_n (pc := 12) 3 dX9_layStands_12 rfl (by decide) rfl ?_
  exact h
set_option maxRecDepth 20000 in
theorem t_X9_layStands_13 {l1 : Int32} {l2 : Int32} {l3 : Int32} {σ : kS} {τ : kS}  (h : ((σ.1 5 3) ≤ l3 → E_X9_layStands_40 l1 l2 (0 : Int32) (k_si σ 0 15 (-1 : Int32)) τ) ∧ (¬ (σ.1 5 3) ≤ l3 → E_X9_layStands_13 l1 (l2 * l1) (l3 + (1 : Int32)) σ τ)) : E_X9_layStands_13 l1 l2 l3 σ τ := by
  unfold E_X9_layStands_13
  refine x_iload_n (pc := 13) 3 dX9_layStands_13 rfl rfl ?_
  refine x_aload_n (pc := 14) 0 dX9_layStands_14 rfl rfl ?_
  refine x_getR (pc := 15) dX9_layStands_15 fX9_23 rfl rfl ?_
  refine x_iconst (pc := 18) (3 : Int32) dX9_layStands_18 (by decide +kernel) ?_
  refine x_ialoadK (pc := 19) (n := 38) 3 dX9_layStands_19 rfl (by decide) (by decide +kernel) ?_
  refine x_icmp_ge (pc := 20) 33 dX9_layStands_20 (by decide) (fun c1 => ?_) (fun c1 => ?_)
  · replace h := h.1 c1
    refine x_aload_n (pc := 33) 0 dX9_layStands_33 rfl rfl ?_
    refine x_iconst (pc := 34) (-1 : Int32) dX9_layStands_34 (by decide +kernel) ?_
    refine x_putI (pc := 35) dX9_layStands_35 pX9_179 rfl rfl ?_
    refine x_iconst (pc := 38) (0 : Int32) dX9_layStands_38 (by decide +kernel) ?_
    refine x_istore_n (pc := 39) 3 dX9_layStands_39 rfl (by decide) rfl ?_
    exact h
  · replace h := h.2 c1
    refine x_iload_n (pc := 23) 2 dX9_layStands_23 rfl rfl ?_
    refine x_iload_n (pc := 24) 1 dX9_layStands_24 rfl rfl ?_
    refine x_imul (pc := 25) dX9_layStands_25 ?_
    refine x_istore_n (pc := 26) 2 dX9_layStands_26 rfl (by decide) rfl ?_
    refine x_iinc (pc := 27) (1 : Int32) dX9_layStands_27 (by decide) rfl rfl (by decide +kernel) ?_
    refine x_goto (pc := 30) 13 dX9_layStands_30 (by decide) ?_
    exact h
set_option maxRecDepth 20000 in
theorem t_X9_layStands_40 {l1 : Int32} {l2 : Int32} {l3 : Int32} {σ : kS} {τ : kS}  (h : (l2 ≤ l3 → τ = σ) ∧ (¬ l2 ≤ l3 → ∃ s2 : kS, R_X9_begin  σ s2 ∧ (E_X9_layStands_62 l1 l2 l3 l3 ((s2.1 5 3) - (1 : Int32)) s2 τ))) : E_X9_layStands_40 l1 l2 l3 σ τ := by
  unfold E_X9_layStands_40
  refine x_iload_n (pc := 40) 3 dX9_layStands_40 rfl rfl ?_
  refine x_iload_n (pc := 41) 2 dX9_layStands_41 rfl rfl ?_
  refine x_icmp_ge (pc := 42) 241 dX9_layStands_42 (by decide) (fun c1 => ?_) (fun c1 => ?_)
  · replace h := h.1 c1
    exact x_return2 (pc := 241) dX9_layStands_241 rfl h
  · replace h := h.2 c1
    refine x_aload_n (pc := 45) 0 dX9_layStands_45 rfl rfl ?_
    obtain ⟨s2, hr, h⟩ := h
    refine x_callV (pc := 46) [] [] dX9_layStands_46 ⟨⟨hX9_begin.1, hX9_begin.2.1, hX9_begin.2.2, by decide⟩, mX9_173, vX9_begin.1, vX9_begin.2⟩ (ci := 9) rfl rfl rfl rfl (Nat.le_of_ble_eq_true rfl) hr ?_
    refine x_iload_n (pc := 49) 3 dX9_layStands_49 rfl rfl ?_
    refine x_istore (pc := 50) dX9_layStands_50 (by decide) rfl ?_
    refine x_aload_n (pc := 52) 0 dX9_layStands_52 rfl rfl ?_
    refine x_getR (pc := 53) dX9_layStands_53 fX9_23 rfl rfl ?_
    refine x_iconst (pc := 56) (3 : Int32) dX9_layStands_56 (by decide +kernel) ?_
    refine x_ialoadK (pc := 57) (n := 38) 3 dX9_layStands_57 rfl (by decide) (by decide +kernel) ?_
    refine x_iconst (pc := 58) (1 : Int32) dX9_layStands_58 (by decide +kernel) ?_
    refine x_isub (pc := 59) dX9_layStands_59 ?_
    refine x_istore (pc := 60) dX9_layStands_60 (by decide) rfl ?_
    exact h
set_option maxRecDepth 20000 in
theorem t_X9_layStands_62 {l1 : Int32} {l2 : Int32} {l3 : Int32} {l4 : Int32} {l5 : Int32} {σ : kS} {τ : kS}  (h : (l5 < 0 → ∃ (x3 : Int32) (s2 : kS), R_X9_singAll 7 σ x3 s2 ∧ (∃ (x5 : Int32) (s4 : kS), R_X9_bits x3 s2 x5 s4 ∧ (E_X9_layStands_130 l1 l2 l3 x5 (0 : Int32) (0 : Int32) s4 τ))) ∧ (¬ l5 < 0 → ¬ l1 = 0 ∧ ((¬ (l4 - l4 / l1 * l1) = (σ.1 5 2) → ¬ l1 = 0 ∧ (vp_in ((33 : Int32) + l5) 38 ∧ (¬ l1 = 0 ∧ (E_X9_layStands_62 l1 l2 l3 (l4 / l1) (l5 + (-1 : Int32)) (k_si σ 7 ((33 : Int32) + l5).toNatClampNeg (l4 - l4 / l1 * l1)) τ)))) ∧ ((l4 - l4 / l1 * l1) = (σ.1 5 2) → vp_in ((33 : Int32) + l5) 38 ∧ (¬ l1 = 0 ∧ (E_X9_layStands_62 l1 l2 l3 (l4 / l1) (l5 + (-1 : Int32)) (k_si σ 7 ((33 : Int32) + l5).toNatClampNeg (-4 : Int32)) τ)))))) : E_X9_layStands_62 l1 l2 l3 l4 l5 σ τ := by
  unfold E_X9_layStands_62
  refine x_iload (pc := 62) dX9_layStands_62 rfl ?_
  refine x_if_lt (pc := 64) 111 dX9_layStands_64 (by decide) (fun c1 => ?_) (fun c1 => ?_)
  · replace h := h.1 c1
    refine x_aload_n (pc := 111) 0 dX9_layStands_111 rfl rfl ?_
    refine x_aload_n (pc := 112) 0 dX9_layStands_112 rfl rfl ?_
    refine x_getR (pc := 113) dX9_layStands_113 fX9_29 rfl rfl ?_
    obtain ⟨x3, s2, hr, h⟩ := h
    refine x_callV (pc := 116) [(.ref 7)] [] dX9_layStands_116 ⟨⟨hX9_singAll.1, hX9_singAll.2.1, hX9_singAll.2.2, by decide⟩, mX9_156, vX9_singAll.1, vX9_singAll.2⟩ (ci := 9) rfl rfl rfl rfl (Nat.le_of_ble_eq_true rfl) hr ?_
    obtain ⟨x5, s4, hr, h⟩ := h
    refine x_callS (pc := 119) [(.int x3)] [] dX9_layStands_119 ⟨⟨hX9_bits.1, hX9_bits.2.1, hX9_bits.2.2, by decide⟩, mX9_76, sX9_bits⟩ rfl rfl (Nat.le_of_ble_eq_true rfl) hr ?_
    refine x_istore (pc := 122) dX9_layStands_122 (by decide) rfl ?_
    refine x_iconst (pc := 124) (0 : Int32) dX9_layStands_124 (by decide +kernel) ?_
    refine x_istore (pc := 125) dX9_layStands_125 (by decide) rfl ?_
    refine x_iconst (pc := 127) (0 : Int32) dX9_layStands_127 (by decide +kernel) ?_
    refine x_istore (pc := 128) dX9_layStands_128 (by decide) rfl ?_
    exact x_mask [true, true, true, true, false, true, true, true] h
  · replace h := h.2 c1
    refine x_aload_n (pc := 67) 0 dX9_layStands_67 rfl rfl ?_
    refine x_getR (pc := 68) dX9_layStands_68 fX9_29 rfl rfl ?_
    refine x_bipush (pc := 71) (33 : Int32) dX9_layStands_71 (by decide +kernel) ?_
    refine x_iload (pc := 73) dX9_layStands_73 rfl ?_
    refine x_iadd (pc := 75) dX9_layStands_75 ?_
    refine x_iload (pc := 76) dX9_layStands_76 rfl ?_
    refine x_iload_n (pc := 78) 1 dX9_layStands_78 rfl rfl ?_
    obtain ⟨g6, h⟩ := h
    refine x_irem (pc := 79) dX9_layStands_79 g6 ?_
    refine x_aload_n (pc := 80) 0 dX9_layStands_80 rfl rfl ?_
    refine x_getR (pc := 81) dX9_layStands_81 fX9_23 rfl rfl ?_
    refine x_iconst (pc := 84) (2 : Int32) dX9_layStands_84 (by decide +kernel) ?_
    refine x_ialoadK (pc := 85) (n := 38) 2 dX9_layStands_85 rfl (by decide) (by decide +kernel) ?_
    refine x_icmp_ne (pc := 86) 94 dX9_layStands_86 (by decide) (fun c7 => ?_) (fun c7 => ?_)
    · replace h := h.1 c7
      refine x_iload (pc := 94) dX9_layStands_94 rfl ?_
      refine x_iload_n (pc := 96) 1 dX9_layStands_96 rfl rfl ?_
      obtain ⟨g8, h⟩ := h
      refine x_irem (pc := 97) dX9_layStands_97 g8 ?_
      obtain ⟨g9, h⟩ := h
      refine x_iastore (pc := 98) (n := 38) dX9_layStands_98 rfl g9 ?_
      refine x_iload (pc := 99) dX9_layStands_99 rfl ?_
      refine x_iload_n (pc := 101) 1 dX9_layStands_101 rfl rfl ?_
      obtain ⟨g10, h⟩ := h
      refine x_idiv (pc := 102) dX9_layStands_102 g10 ?_
      refine x_istore (pc := 103) dX9_layStands_103 (by decide) rfl ?_
      refine x_iinc (pc := 105) (-1 : Int32) dX9_layStands_105 (by decide) rfl rfl (by decide +kernel) ?_
      refine x_goto (pc := 108) 62 dX9_layStands_108 (by decide) ?_
      exact h
    · replace h := h.2 c7
      refine x_bipush (pc := 89) (-4 : Int32) dX9_layStands_89 (by decide +kernel) ?_
      refine x_goto (pc := 91) 98 dX9_layStands_91 (by decide) ?_
      obtain ⟨g11, h⟩ := h
      refine x_iastore (pc := 98) (n := 38) dX9_layStands_98 rfl g11 ?_
      refine x_iload (pc := 99) dX9_layStands_99 rfl ?_
      refine x_iload_n (pc := 101) 1 dX9_layStands_101 rfl rfl ?_
      obtain ⟨g12, h⟩ := h
      refine x_idiv (pc := 102) dX9_layStands_102 g12 ?_
      refine x_istore (pc := 103) dX9_layStands_103 (by decide) rfl ?_
      refine x_iinc (pc := 105) (-1 : Int32) dX9_layStands_105 (by decide) rfl rfl (by decide +kernel) ?_
      refine x_goto (pc := 108) 62 dX9_layStands_108 (by decide) ?_
      exact h
set_option maxRecDepth 20000 in
theorem t_X9_layStands_130 {l1 : Int32} {l2 : Int32} {l3 : Int32} {l5 : Int32} {l6 : Int32} {l7 : Int32} {σ : kS} {τ : kS}  (h : ((σ.1 5 3) ≤ l7 → ((σ.1 0 15) < l5 → E_X9_layStands_208 l1 l2 l3 l5 l6 σ τ) ∧ (¬ (σ.1 0 15) < l5 → (¬ l5 = (σ.1 0 15) → E_X9_layStands_40 l1 l2 (l3 + (1 : Int32)) σ τ) ∧ (l5 = (σ.1 0 15) → ((σ.1 0 16) ≤ l6 → E_X9_layStands_40 l1 l2 (l3 + (1 : Int32)) σ τ) ∧ (¬ (σ.1 0 16) ≤ l6 → E_X9_layStands_208 l1 l2 l3 l5 l6 σ τ)))) ∧ (¬ (σ.1 5 3) ≤ l7 → vp_in l7 5 ∧ ((¬ (σ.1 11 l7.toNatClampNeg) = (12 : Int32) → vp_in ((13 : Int32) + l7) 38 ∧ (∃ (x9 : Int32) (s8 : kS), R_X9_tires (σ.1 5 ((13 : Int32) + l7).toNatClampNeg) σ x9 s8 ∧ (E_X9_layStands_130 l1 l2 l3 l5 (l6 + x9) (l7 + (1 : Int32)) s8 τ))) ∧ ((σ.1 11 l7.toNatClampNeg) = (12 : Int32) → E_X9_layStands_130 l1 l2 l3 l5 (l6 + (0 : Int32)) (l7 + (1 : Int32)) σ τ)))) : E_X9_layStands_130 l1 l2 l3 l5 l6 l7 σ τ := by
  unfold E_X9_layStands_130
  refine x_iload (pc := 130) dX9_layStands_130 rfl ?_
  refine x_aload_n (pc := 132) 0 dX9_layStands_132 rfl rfl ?_
  refine x_getR (pc := 133) dX9_layStands_133 fX9_23 rfl rfl ?_
  refine x_iconst (pc := 136) (3 : Int32) dX9_layStands_136 (by decide +kernel) ?_
  refine x_ialoadK (pc := 137) (n := 38) 3 dX9_layStands_137 rfl (by decide) (by decide +kernel) ?_
  refine x_icmp_ge (pc := 138) 181 dX9_layStands_138 (by decide) (fun c1 => ?_) (fun c1 => ?_)
  · replace h := h.1 c1
    refine x_iload (pc := 181) dX9_layStands_181 rfl ?_
    refine x_aload_n (pc := 183) 0 dX9_layStands_183 rfl rfl ?_
    refine x_getI (pc := 184) dX9_layStands_184 fX9_179 rfl rfl ?_
    refine x_icmp_gt (pc := 187) 208 dX9_layStands_187 (by decide) (fun c2 => ?_) (fun c2 => ?_)
    · replace h := h.1 c2
      exact x_mask [true, true, true, true, false, true, true, false] h
    · replace h := h.2 c2
      refine x_iload (pc := 190) dX9_layStands_190 rfl ?_
      refine x_aload_n (pc := 192) 0 dX9_layStands_192 rfl rfl ?_
      refine x_getI (pc := 193) dX9_layStands_193 fX9_179 rfl rfl ?_
      refine x_icmp_ne (pc := 196) 235 dX9_layStands_196 (by decide) (fun c3 => ?_) (fun c3 => ?_)
      · replace h := h.1 c3
        refine x_iinc (pc := 235) (1 : Int32) dX9_layStands_235 (by decide) rfl rfl (by decide +kernel) ?_
        refine x_goto (pc := 238) 40 dX9_layStands_238 (by decide) ?_
        exact x_mask [true, true, true, true, false, false, false, false] h
      · replace h := h.2 c3
        refine x_iload (pc := 199) dX9_layStands_199 rfl ?_
        refine x_aload_n (pc := 201) 0 dX9_layStands_201 rfl rfl ?_
        refine x_getI (pc := 202) dX9_layStands_202 fX9_182 rfl rfl ?_
        refine x_icmp_ge (pc := 205) 235 dX9_layStands_205 (by decide) (fun c4 => ?_) (fun c4 => ?_)
        · replace h := h.1 c4
          refine x_iinc (pc := 235) (1 : Int32) dX9_layStands_235 (by decide) rfl rfl (by decide +kernel) ?_
          refine x_goto (pc := 238) 40 dX9_layStands_238 (by decide) ?_
          exact x_mask [true, true, true, true, false, false, false, false] h
        · replace h := h.2 c4
          exact x_mask [true, true, true, true, false, true, true, false] h
  · replace h := h.2 c1
    refine x_iload (pc := 141) dX9_layStands_141 rfl ?_
    refine x_aload_n (pc := 143) 0 dX9_layStands_143 rfl rfl ?_
    refine x_getR (pc := 144) dX9_layStands_144 fX9_42 rfl rfl ?_
    refine x_iload (pc := 147) dX9_layStands_147 rfl ?_
    obtain ⟨g5, h⟩ := h
    refine x_iaload (pc := 149) (n := 5) dX9_layStands_149 rfl g5 ?_
    refine x_bipush (pc := 150) (12 : Int32) dX9_layStands_150 (by decide +kernel) ?_
    refine x_icmp_ne (pc := 152) 159 dX9_layStands_152 (by decide) (fun c6 => ?_) (fun c6 => ?_)
    · replace h := h.1 c6
      refine x_aload_n (pc := 159) 0 dX9_layStands_159 rfl rfl ?_
      refine x_getR (pc := 160) dX9_layStands_160 fX9_23 rfl rfl ?_
      refine x_bipush (pc := 163) (13 : Int32) dX9_layStands_163 (by decide +kernel) ?_
      refine x_iload (pc := 165) dX9_layStands_165 rfl ?_
      refine x_iadd (pc := 167) dX9_layStands_167 ?_
      obtain ⟨g7, h⟩ := h
      refine x_iaload (pc := 168) (n := 38) dX9_layStands_168 rfl g7 ?_
      obtain ⟨x9, s8, hr, h⟩ := h
      refine x_callS (pc := 169) [(.int (σ.1 5 ((13 : Int32) + l7).toNatClampNeg))] [(.int l6)] dX9_layStands_169 ⟨⟨hX9_tires.1, hX9_tires.2.1, hX9_tires.2.2, by decide⟩, mX9_160, sX9_tires⟩ rfl rfl (Nat.le_of_ble_eq_true rfl) hr ?_
      refine x_iadd (pc := 172) dX9_layStands_172 ?_
      refine x_istore (pc := 173) dX9_layStands_173 (by decide) rfl ?_
      refine x_iinc (pc := 175) (1 : Int32) dX9_layStands_175 (by decide) rfl rfl (by decide +kernel) ?_
      refine x_goto (pc := 178) 130 dX9_layStands_178 (by decide) ?_
      exact h
    · replace h := h.2 c6
      refine x_iconst (pc := 155) (0 : Int32) dX9_layStands_155 (by decide +kernel) ?_
      refine x_goto (pc := 156) 172 dX9_layStands_156 (by decide) ?_
      refine x_iadd (pc := 172) dX9_layStands_172 ?_
      refine x_istore (pc := 173) dX9_layStands_173 (by decide) rfl ?_
      refine x_iinc (pc := 175) (1 : Int32) dX9_layStands_175 (by decide) rfl rfl (by decide +kernel) ?_
      refine x_goto (pc := 178) 130 dX9_layStands_178 (by decide) ?_
      exact h
set_option maxRecDepth 20000 in
theorem t_X9_layStands_208 {l1 : Int32} {l2 : Int32} {l3 : Int32} {l5 : Int32} {l6 : Int32} {σ : kS} {τ : kS}  (h : ∃ s1 : kS, R_X9_bring 7 38 (33 : Int32) 12 5 (0 : Int32) (5 : Int32) (k_si (k_si σ 0 15 l5) 0 16 l6) s1 ∧ (E_X9_layStands_40 l1 l2 (l3 + (1 : Int32)) s1 τ)) : E_X9_layStands_208 l1 l2 l3 l5 l6 σ τ := by
  unfold E_X9_layStands_208
  refine x_aload_n (pc := 208) 0 dX9_layStands_208 rfl rfl ?_
  refine x_iload (pc := 209) dX9_layStands_209 rfl ?_
  refine x_putI (pc := 211) dX9_layStands_211 pX9_179 rfl rfl ?_
  refine x_aload_n (pc := 214) 0 dX9_layStands_214 rfl rfl ?_
  refine x_iload (pc := 215) dX9_layStands_215 rfl ?_
  refine x_putI (pc := 217) dX9_layStands_217 pX9_182 rfl rfl ?_
  refine x_aload_n (pc := 220) 0 dX9_layStands_220 rfl rfl ?_
  refine x_getR (pc := 221) dX9_layStands_221 fX9_29 rfl rfl ?_
  refine x_bipush (pc := 224) (33 : Int32) dX9_layStands_224 (by decide +kernel) ?_
  refine x_aload_n (pc := 226) 0 dX9_layStands_226 rfl rfl ?_
  refine x_getR (pc := 227) dX9_layStands_227 fX9_45 rfl rfl ?_
  refine x_iconst (pc := 230) (0 : Int32) dX9_layStands_230 (by decide +kernel) ?_
  refine x_iconst (pc := 231) (5 : Int32) dX9_layStands_231 (by decide +kernel) ?_
  obtain ⟨s1, hr, h⟩ := h
  refine x_callS (pc := 232) [(.ref 7), (.int (33 : Int32)), (.ref 12), (.int (0 : Int32)), (.int (5 : Int32))] [] dX9_layStands_232 ⟨⟨hX9_bring.1, hX9_bring.2.1, hX9_bring.2.2, by decide⟩, mX9_99, sX9_bring⟩ rfl rfl (Nat.le_of_ble_eq_true rfl) hr ?_
  refine x_iinc (pc := 235) (1 : Int32) dX9_layStands_235 (by decide) rfl rfl (by decide +kernel) ?_
  refine x_goto (pc := 238) 40 dX9_layStands_238 (by decide) ?_
  exact x_mask [true, true, true, true, false, false, false, false] h
theorem dX9_stands_0 : decode cX9_stands 0 = .ok (.iload_n 1, 1) := by decide +kernel
theorem dX9_stands_1 : decode cX9_stands 1 = .ok (.iconst (-1), 1) := by decide +kernel
theorem dX9_stands_2 : decode cX9_stands 2 = .ok (.if_icmp .eq 13, 3) := by decide +kernel
theorem dX9_stands_5 : decode cX9_stands 5 = .ok (.aload_n 0, 1) := by decide +kernel
theorem dX9_stands_6 : decode cX9_stands 6 = .ok (.iload_n 1, 1) := by decide +kernel
theorem dX9_stands_7 : decode cX9_stands 7 = .ok (.invokevirtual 130, 3) := by decide +kernel
theorem dX9_stands_10 : decode cX9_stands 10 = .ok (.ifCond .ne 5, 3) := by decide +kernel
theorem dX9_stands_13 : decode cX9_stands 13 = .ok (.iconst (-1), 1) := by decide +kernel
theorem dX9_stands_14 : decode cX9_stands 14 = .ok (.ireturn, 1) := by decide +kernel
theorem dX9_stands_15 : decode cX9_stands 15 = .ok (.aload_n 0, 1) := by decide +kernel
theorem dX9_stands_16 : decode cX9_stands 16 = .ok (.invokevirtual 110, 3) := by decide +kernel
theorem dX9_stands_19 : decode cX9_stands 19 = .ok (.ifCond .ne 6, 3) := by decide +kernel
theorem dX9_stands_22 : decode cX9_stands 22 = .ok (.bipush (-2), 2) := by decide +kernel
theorem dX9_stands_24 : decode cX9_stands 24 = .ok (.ireturn, 1) := by decide +kernel
theorem dX9_stands_25 : decode cX9_stands 25 = .ok (.aload_n 0, 1) := by decide +kernel
theorem dX9_stands_26 : decode cX9_stands 26 = .ok (.invokevirtual 185, 3) := by decide +kernel
theorem dX9_stands_29 : decode cX9_stands 29 = .ok (.iload_n 1, 1) := by decide +kernel
theorem dX9_stands_30 : decode cX9_stands 30 = .ok (.iconst (-1), 1) := by decide +kernel
theorem dX9_stands_31 : decode cX9_stands 31 = .ok (.if_icmp .ne 10, 3) := by decide +kernel
theorem dX9_stands_34 : decode cX9_stands 34 = .ok (.aload_n 0, 1) := by decide +kernel
theorem dX9_stands_35 : decode cX9_stands 35 = .ok (.getfield 179, 3) := by decide +kernel
theorem dX9_stands_38 : decode cX9_stands 38 = .ok (.goto 9, 3) := by decide +kernel
theorem dX9_stands_41 : decode cX9_stands 41 = .ok (.aload_n 0, 1) := by decide +kernel
theorem dX9_stands_42 : decode cX9_stands 42 = .ok (.getfield 45, 3) := by decide +kernel
theorem dX9_stands_45 : decode cX9_stands 45 = .ok (.iload_n 1, 1) := by decide +kernel
theorem dX9_stands_46 : decode cX9_stands 46 = .ok (.iaload, 1) := by decide +kernel
theorem dX9_stands_47 : decode cX9_stands 47 = .ok (.ireturn, 1) := by decide +kernel
def R_X9_stands (a1 : Int32) (σ : kS) (x : Int32) (τ : kS) : Prop := Run SM jX9_stands [(.ref 0), (.int a1)] σ (some (.int x)) τ
def E_X9_stands_15 (l1 : Int32) (σ : kS) (x : Int32) (τ : kS) : Prop := Ex SM jX9_stands 15 [some (.ref 0), some (.int l1)] [] σ (some (.int x)) τ
set_option maxRecDepth 20000 in
theorem t_X9_stands {a1 : Int32} {σ : kS} {x : Int32} {τ : kS}  (h : (a1 = (-1 : Int32) → E_X9_stands_15 a1 σ x τ) ∧ (¬ a1 = (-1 : Int32) → ((iv a1 0 ((σ.1 5 3) - 1)) → E_X9_stands_15 a1 σ x τ) ∧ (¬ (iv a1 0 ((σ.1 5 3) - 1)) → x = (-1 : Int32) ∧ τ = σ))) : R_X9_stands a1 σ x τ := by
  refine x_run [some (.ref 0), some (.int a1)] (by decide +kernel) rfl (Nat.le_of_ble_eq_true rfl) ?_
  refine x_iload_n (pc := 0) 1 dX9_stands_0 rfl rfl ?_
  refine x_iconst (pc := 1) (-1 : Int32) dX9_stands_1 (by decide +kernel) ?_
  refine x_icmp_eq (pc := 2) 15 dX9_stands_2 (by decide) (fun c1 => ?_) (fun c1 => ?_)
  · replace h := h.1 c1
    exact h
  · replace h := h.2 c1
    refine x_aload_n (pc := 5) 0 dX9_stands_5 rfl rfl ?_
    refine x_iload_n (pc := 6) 1 dX9_stands_6 rfl rfl ?_
    refine x_callV (pc := 7) [(.int a1)] [] dX9_stands_7 ⟨⟨hX9_isOne.1, hX9_isOne.2.1, hX9_isOne.2.2, by decide⟩, mX9_130, vX9_isOne.1, vX9_isOne.2⟩ (ci := 9) rfl rfl rfl rfl (Nat.le_of_ble_eq_true rfl) (i_X9_isOne) ?_
    refine x_bif_ne (pc := 10) 15 dX9_stands_10 (by decide) (fun c2 => ?_) (fun c2 => ?_)
    · replace h := h.1 c2
      exact h
    · replace h := h.2 c2
      refine x_iconst (pc := 13) (-1 : Int32) dX9_stands_13 (by decide +kernel) ?_
      exact x_ireturn2 (pc := 14) dX9_stands_14 rfl h.1 h.2
set_option maxRecDepth 20000 in
theorem t_X9_stands_15 {l1 : Int32} {σ : kS} {x : Int32} {τ : kS}  (h : ((0 < (σ.1 5 1)) → ∃ s2 : kS, R_X9_layStands  σ s2 ∧ ((¬ l1 = (-1 : Int32) → vp_in l1 5 ∧ (x = (s2.1 12 l1.toNatClampNeg) ∧ τ = s2)) ∧ (l1 = (-1 : Int32) → x = (s2.1 0 15) ∧ τ = s2))) ∧ (¬ (0 < (σ.1 5 1)) → x = (-2 : Int32) ∧ τ = σ)) : E_X9_stands_15 l1 σ x τ := by
  unfold E_X9_stands_15
  refine x_aload_n (pc := 15) 0 dX9_stands_15 rfl rfl ?_
  refine x_callV (pc := 16) [] [] dX9_stands_16 ⟨⟨hX9_isThere.1, hX9_isThere.2.1, hX9_isThere.2.2, by decide⟩, mX9_110, vX9_isThere.1, vX9_isThere.2⟩ (ci := 9) rfl rfl rfl rfl (Nat.le_of_ble_eq_true rfl) (i_X9_isThere) ?_
  refine x_bif_ne (pc := 19) 25 dX9_stands_19 (by decide) (fun c1 => ?_) (fun c1 => ?_)
  · replace h := h.1 c1
    refine x_aload_n (pc := 25) 0 dX9_stands_25 rfl rfl ?_
    obtain ⟨s2, hr, h⟩ := h
    refine x_callV (pc := 26) [] [] dX9_stands_26 ⟨⟨hX9_layStands.1, hX9_layStands.2.1, hX9_layStands.2.2, by decide⟩, mX9_185, vX9_layStands.1, vX9_layStands.2⟩ (ci := 9) rfl rfl rfl rfl (Nat.le_of_ble_eq_true rfl) hr ?_
    refine x_iload_n (pc := 29) 1 dX9_stands_29 rfl rfl ?_
    refine x_iconst (pc := 30) (-1 : Int32) dX9_stands_30 (by decide +kernel) ?_
    refine x_icmp_ne (pc := 31) 41 dX9_stands_31 (by decide) (fun c3 => ?_) (fun c3 => ?_)
    · replace h := h.1 c3
      refine x_aload_n (pc := 41) 0 dX9_stands_41 rfl rfl ?_
      refine x_getR (pc := 42) dX9_stands_42 fX9_45 rfl rfl ?_
      refine x_iload_n (pc := 45) 1 dX9_stands_45 rfl rfl ?_
      obtain ⟨g4, h⟩ := h
      refine x_iaload (pc := 46) (n := 5) dX9_stands_46 rfl g4 ?_
      exact x_ireturn2 (pc := 47) dX9_stands_47 rfl h.1 h.2
    · replace h := h.2 c3
      refine x_aload_n (pc := 34) 0 dX9_stands_34 rfl rfl ?_
      refine x_getI (pc := 35) dX9_stands_35 fX9_179 rfl rfl ?_
      refine x_goto (pc := 38) 47 dX9_stands_38 (by decide) ?_
      exact x_ireturn2 (pc := 47) dX9_stands_47 rfl h.1 h.2
  · replace h := h.2 c1
    refine x_bipush (pc := 22) (-2 : Int32) dX9_stands_22 (by decide +kernel) ?_
    exact x_ireturn2 (pc := 24) dX9_stands_24 rfl h.1 h.2
theorem dX9_howls_0 : decode cX9_howls 0 = .ok (.aload_n 0, 1) := by decide +kernel
theorem dX9_howls_1 : decode cX9_howls 1 = .ok (.iload_n 1, 1) := by decide +kernel
theorem dX9_howls_2 : decode cX9_howls 2 = .ok (.invokevirtual 121, 3) := by decide +kernel
theorem dX9_howls_5 : decode cX9_howls 5 = .ok (.ifCond .ne 5, 3) := by decide +kernel
theorem dX9_howls_8 : decode cX9_howls 8 = .ok (.iconst (-1), 1) := by decide +kernel
theorem dX9_howls_9 : decode cX9_howls 9 = .ok (.ireturn, 1) := by decide +kernel
theorem dX9_howls_10 : decode cX9_howls 10 = .ok (.iconst 0, 1) := by decide +kernel
theorem dX9_howls_11 : decode cX9_howls 11 = .ok (.istore_n 2, 1) := by decide +kernel
theorem dX9_howls_12 : decode cX9_howls 12 = .ok (.iconst 0, 1) := by decide +kernel
theorem dX9_howls_13 : decode cX9_howls 13 = .ok (.istore_n 3, 1) := by decide +kernel
theorem dX9_howls_14 : decode cX9_howls 14 = .ok (.iload_n 3, 1) := by decide +kernel
theorem dX9_howls_15 : decode cX9_howls 15 = .ok (.bipush 12, 2) := by decide +kernel
theorem dX9_howls_17 : decode cX9_howls 17 = .ok (.if_icmp .ge 70, 3) := by decide +kernel
theorem dX9_howls_20 : decode cX9_howls 20 = .ok (.aload_n 0, 1) := by decide +kernel
theorem dX9_howls_21 : decode cX9_howls 21 = .ok (.getfield 23, 3) := by decide +kernel
theorem dX9_howls_24 : decode cX9_howls 24 = .ok (.bipush 8, 2) := by decide +kernel
theorem dX9_howls_26 : decode cX9_howls 26 = .ok (.iload_n 1, 1) := by decide +kernel
theorem dX9_howls_27 : decode cX9_howls 27 = .ok (.iadd, 1) := by decide +kernel
theorem dX9_howls_28 : decode cX9_howls 28 = .ok (.iaload, 1) := by decide +kernel
theorem dX9_howls_29 : decode cX9_howls 29 = .ok (.iload_n 3, 1) := by decide +kernel
theorem dX9_howls_30 : decode cX9_howls 30 = .ok (.invokestatic 133, 3) := by decide +kernel
theorem dX9_howls_33 : decode cX9_howls 33 = .ok (.ifCond .ne 30, 3) := by decide +kernel
theorem dX9_howls_36 : decode cX9_howls 36 = .ok (.aload_n 0, 1) := by decide +kernel
theorem dX9_howls_37 : decode cX9_howls 37 = .ok (.getfield 23, 3) := by decide +kernel
theorem dX9_howls_40 : decode cX9_howls 40 = .ok (.aload_n 0, 1) := by decide +kernel
theorem dX9_howls_41 : decode cX9_howls 41 = .ok (.getfield 23, 3) := by decide +kernel
theorem dX9_howls_44 : decode cX9_howls 44 = .ok (.bipush 8, 2) := by decide +kernel
theorem dX9_howls_46 : decode cX9_howls 46 = .ok (.iload_n 1, 1) := by decide +kernel
theorem dX9_howls_47 : decode cX9_howls 47 = .ok (.iadd, 1) := by decide +kernel
theorem dX9_howls_48 : decode cX9_howls 48 = .ok (.iaload, 1) := by decide +kernel
theorem dX9_howls_49 : decode cX9_howls 49 = .ok (.iconst 1, 1) := by decide +kernel
theorem dX9_howls_50 : decode cX9_howls 50 = .ok (.iload_n 3, 1) := by decide +kernel
theorem dX9_howls_51 : decode cX9_howls 51 = .ok (.ishl, 1) := by decide +kernel
theorem dX9_howls_52 : decode cX9_howls 52 = .ok (.ior, 1) := by decide +kernel
theorem dX9_howls_53 : decode cX9_howls 53 = .ok (.invokestatic 113, 3) := by decide +kernel
theorem dX9_howls_56 : decode cX9_howls 56 = .ok (.ifCond .ge 7, 3) := by decide +kernel
theorem dX9_howls_59 : decode cX9_howls 59 = .ok (.iconst 1, 1) := by decide +kernel
theorem dX9_howls_60 : decode cX9_howls 60 = .ok (.goto 4, 3) := by decide +kernel
theorem dX9_howls_63 : decode cX9_howls 63 = .ok (.iconst 0, 1) := by decide +kernel
theorem dX9_howls_64 : decode cX9_howls 64 = .ok (.istore 4, 2) := by decide +kernel
theorem dX9_howls_66 : decode cX9_howls 66 = .ok (.iload_n 2, 1) := by decide +kernel
theorem dX9_howls_67 : decode cX9_howls 67 = .ok (.iload 4, 2) := by decide +kernel
theorem dX9_howls_69 : decode cX9_howls 69 = .ok (.ifCond .eq 9, 3) := by decide +kernel
theorem dX9_howls_72 : decode cX9_howls 72 = .ok (.iconst 1, 1) := by decide +kernel
theorem dX9_howls_73 : decode cX9_howls 73 = .ok (.iload_n 3, 1) := by decide +kernel
theorem dX9_howls_74 : decode cX9_howls 74 = .ok (.ishl, 1) := by decide +kernel
theorem dX9_howls_75 : decode cX9_howls 75 = .ok (.goto 4, 3) := by decide +kernel
theorem dX9_howls_78 : decode cX9_howls 78 = .ok (.iconst 0, 1) := by decide +kernel
theorem dX9_howls_79 : decode cX9_howls 79 = .ok (.ior, 1) := by decide +kernel
theorem dX9_howls_80 : decode cX9_howls 80 = .ok (.istore_n 2, 1) := by decide +kernel
theorem dX9_howls_81 : decode cX9_howls 81 = .ok (.iinc 3 1, 3) := by decide +kernel
theorem dX9_howls_84 : decode cX9_howls 84 = .ok (.goto (-70), 3) := by decide +kernel
theorem dX9_howls_87 : decode cX9_howls 87 = .ok (.iload_n 2, 1) := by decide +kernel
theorem dX9_howls_88 : decode cX9_howls 88 = .ok (.ireturn, 1) := by decide +kernel
def R_X9_howls (a1 : Int32) (σ : kS) (x : Int32) (τ : kS) : Prop := Run SM jX9_howls [(.ref 0), (.int a1)] σ (some (.int x)) τ
def E_X9_howls_14 (l1 : Int32) (l2 : Int32) (l3 : Int32) (σ : kS) (x : Int32) (τ : kS) : Prop := Ex SM jX9_howls 14 [some (.ref 0), some (.int l1), some (.int l2), some (.int l3), none] [] σ (some (.int x)) τ
def E_X9_howls_64 (l1 : Int32) (l2 : Int32) (l3 : Int32) (y0 : Int32) (σ : kS) (x : Int32) (τ : kS) : Prop := Ex SM jX9_howls 64 [some (.ref 0), some (.int l1), some (.int l2), some (.int l3), none] [(.int y0)] σ (some (.int x)) τ
set_option maxRecDepth 20000 in
theorem t_X9_howls {a1 : Int32} {σ : kS} {x : Int32} {τ : kS}  (h : ((iv a1 0 ((σ.1 5 2) - 1)) → E_X9_howls_14 a1 (0 : Int32) (0 : Int32) σ x τ) ∧ (¬ (iv a1 0 ((σ.1 5 2) - 1)) → x = (-1 : Int32) ∧ τ = σ)) : R_X9_howls a1 σ x τ := by
  refine x_run [some (.ref 0), some (.int a1), none, none, none] (by decide +kernel) rfl (Nat.le_of_ble_eq_true rfl) ?_
  refine x_aload_n (pc := 0) 0 dX9_howls_0 rfl rfl ?_
  refine x_iload_n (pc := 1) 1 dX9_howls_1 rfl rfl ?_
  refine x_callV (pc := 2) [(.int a1)] [] dX9_howls_2 ⟨⟨hX9_isField.1, hX9_isField.2.1, hX9_isField.2.2, by decide⟩, mX9_121, vX9_isField.1, vX9_isField.2⟩ (ci := 9) rfl rfl rfl rfl (Nat.le_of_ble_eq_true rfl) (i_X9_isField) ?_
  refine x_bif_ne (pc := 5) 10 dX9_howls_5 (by decide) (fun c1 => ?_) (fun c1 => ?_)
  · replace h := h.1 c1
    refine x_iconst (pc := 10) (0 : Int32) dX9_howls_10 (by decide +kernel) ?_
    refine x_istore_n (pc := 11) 2 dX9_howls_11 rfl (by decide) rfl ?_
    refine x_iconst (pc := 12) (0 : Int32) dX9_howls_12 (by decide +kernel) ?_
    refine x_istore_n (pc := 13) 3 dX9_howls_13 rfl (by decide) rfl ?_
    exact h
  · replace h := h.2 c1
    refine x_iconst (pc := 8) (-1 : Int32) dX9_howls_8 (by decide +kernel) ?_
    exact x_ireturn2 (pc := 9) dX9_howls_9 rfl h.1 h.2
set_option maxRecDepth 20000 in
theorem t_X9_howls_14 {l1 : Int32} {l2 : Int32} {l3 : Int32} {σ : kS} {x : Int32} {τ : kS}  (h : ((12 : Int32) ≤ l3 → x = l2 ∧ τ = σ) ∧ (¬ (12 : Int32) ≤ l3 → vp_in ((8 : Int32) + l1) 38 ∧ (((hs (σ.1 5 ((8 : Int32) + l1).toNatClampNeg) l3) → E_X9_howls_64 l1 l2 l3 (0 : Int32) σ x τ) ∧ (¬ (hs (σ.1 5 ((8 : Int32) + l1).toNatClampNeg) l3) → vp_in ((8 : Int32) + l1) 38 ∧ (∃ (x6 : Int32) (s5 : kS), R_X9_chordBy 5 ((σ.1 5 ((8 : Int32) + l1).toNatClampNeg) ||| ((1 : Int32) <<< (l3 &&& 31))) σ x6 s5 ∧ ((0 ≤ x6 → E_X9_howls_64 l1 l2 l3 (0 : Int32) s5 x τ) ∧ (¬ 0 ≤ x6 → E_X9_howls_64 l1 l2 l3 (1 : Int32) s5 x τ))))))) : E_X9_howls_14 l1 l2 l3 σ x τ := by
  unfold E_X9_howls_14
  refine x_iload_n (pc := 14) 3 dX9_howls_14 rfl rfl ?_
  refine x_bipush (pc := 15) (12 : Int32) dX9_howls_15 (by decide +kernel) ?_
  refine x_icmp_ge (pc := 17) 87 dX9_howls_17 (by decide) (fun c1 => ?_) (fun c1 => ?_)
  · replace h := h.1 c1
    refine x_iload_n (pc := 87) 2 dX9_howls_87 rfl rfl ?_
    exact x_ireturn2 (pc := 88) dX9_howls_88 rfl h.1 h.2
  · replace h := h.2 c1
    refine x_aload_n (pc := 20) 0 dX9_howls_20 rfl rfl ?_
    refine x_getR (pc := 21) dX9_howls_21 fX9_23 rfl rfl ?_
    refine x_bipush (pc := 24) (8 : Int32) dX9_howls_24 (by decide +kernel) ?_
    refine x_iload_n (pc := 26) 1 dX9_howls_26 rfl rfl ?_
    refine x_iadd (pc := 27) dX9_howls_27 ?_
    obtain ⟨g2, h⟩ := h
    refine x_iaload (pc := 28) (n := 38) dX9_howls_28 rfl g2 ?_
    refine x_iload_n (pc := 29) 3 dX9_howls_29 rfl rfl ?_
    refine x_callS (pc := 30) [(.int (σ.1 5 ((8 : Int32) + l1).toNatClampNeg)), (.int l3)] [] dX9_howls_30 ⟨⟨hX9_has.1, hX9_has.2.1, hX9_has.2.2, by decide⟩, mX9_133, sX9_has⟩ rfl rfl (Nat.le_of_ble_eq_true rfl) (i_X9_has) ?_
    refine x_bif_ne (pc := 33) 63 dX9_howls_33 (by decide) (fun c3 => ?_) (fun c3 => ?_)
    · replace h := h.1 c3
      refine x_iconst (pc := 63) (0 : Int32) dX9_howls_63 (by decide +kernel) ?_
      exact h
    · replace h := h.2 c3
      refine x_aload_n (pc := 36) 0 dX9_howls_36 rfl rfl ?_
      refine x_getR (pc := 37) dX9_howls_37 fX9_23 rfl rfl ?_
      refine x_aload_n (pc := 40) 0 dX9_howls_40 rfl rfl ?_
      refine x_getR (pc := 41) dX9_howls_41 fX9_23 rfl rfl ?_
      refine x_bipush (pc := 44) (8 : Int32) dX9_howls_44 (by decide +kernel) ?_
      refine x_iload_n (pc := 46) 1 dX9_howls_46 rfl rfl ?_
      refine x_iadd (pc := 47) dX9_howls_47 ?_
      obtain ⟨g4, h⟩ := h
      refine x_iaload (pc := 48) (n := 38) dX9_howls_48 rfl g4 ?_
      refine x_iconst (pc := 49) (1 : Int32) dX9_howls_49 (by decide +kernel) ?_
      refine x_iload_n (pc := 50) 3 dX9_howls_50 rfl rfl ?_
      refine x_ishl (pc := 51) dX9_howls_51 ?_
      refine x_ior (pc := 52) dX9_howls_52 ?_
      obtain ⟨x6, s5, hr, h⟩ := h
      refine x_callS (pc := 53) [(.ref 5), (.int ((σ.1 5 ((8 : Int32) + l1).toNatClampNeg) ||| ((1 : Int32) <<< (l3 &&& 31))))] [] dX9_howls_53 ⟨⟨hX9_chordBy.1, hX9_chordBy.2.1, hX9_chordBy.2.2, by decide⟩, mX9_113, sX9_chordBy⟩ rfl rfl (Nat.le_of_ble_eq_true rfl) hr ?_
      refine x_if_ge (pc := 56) 63 dX9_howls_56 (by decide) (fun c7 => ?_) (fun c7 => ?_)
      · replace h := h.1 c7
        refine x_iconst (pc := 63) (0 : Int32) dX9_howls_63 (by decide +kernel) ?_
        exact h
      · replace h := h.2 c7
        refine x_iconst (pc := 59) (1 : Int32) dX9_howls_59 (by decide +kernel) ?_
        refine x_goto (pc := 60) 64 dX9_howls_60 (by decide) ?_
        exact h
set_option maxRecDepth 20000 in
theorem t_X9_howls_64 {l1 : Int32} {l2 : Int32} {l3 : Int32} {y0 : Int32} {σ : kS} {x : Int32} {τ : kS}  (h : (y0 = 0 → E_X9_howls_14 l1 (l2 ||| (0 : Int32)) (l3 + (1 : Int32)) σ x τ) ∧ (¬ y0 = 0 → E_X9_howls_14 l1 (l2 ||| ((1 : Int32) <<< (l3 &&& 31))) (l3 + (1 : Int32)) σ x τ)) : E_X9_howls_64 l1 l2 l3 y0 σ x τ := by
  unfold E_X9_howls_64
  refine x_istore (pc := 64) dX9_howls_64 (by decide) rfl ?_
  refine x_iload_n (pc := 66) 2 dX9_howls_66 rfl rfl ?_
  refine x_iload (pc := 67) dX9_howls_67 rfl ?_
  refine x_if_eq (pc := 69) 78 dX9_howls_69 (by decide) (fun c1 => ?_) (fun c1 => ?_)
  · replace h := h.1 c1
    refine x_iconst (pc := 78) (0 : Int32) dX9_howls_78 (by decide +kernel) ?_
    refine x_ior (pc := 79) dX9_howls_79 ?_
    refine x_istore_n (pc := 80) 2 dX9_howls_80 rfl (by decide) rfl ?_
    refine x_iinc (pc := 81) (1 : Int32) dX9_howls_81 (by decide) rfl rfl (by decide +kernel) ?_
    refine x_goto (pc := 84) 14 dX9_howls_84 (by decide) ?_
    exact x_mask [true, true, true, true, false] h
  · replace h := h.2 c1
    refine x_iconst (pc := 72) (1 : Int32) dX9_howls_72 (by decide +kernel) ?_
    refine x_iload_n (pc := 73) 3 dX9_howls_73 rfl rfl ?_
    refine x_ishl (pc := 74) dX9_howls_74 ?_
    refine x_goto (pc := 75) 79 dX9_howls_75 (by decide) ?_
    refine x_ior (pc := 79) dX9_howls_79 ?_
    refine x_istore_n (pc := 80) 2 dX9_howls_80 rfl (by decide) rfl ?_
    refine x_iinc (pc := 81) (1 : Int32) dX9_howls_81 (by decide) rfl rfl (by decide +kernel) ?_
    refine x_goto (pc := 84) 14 dX9_howls_84 (by decide) ?_
    exact x_mask [true, true, true, true, false] h
theorem dX9_back_0 : decode cX9_back 0 = .ok (.aload_n 0, 1) := by decide +kernel
theorem dX9_back_1 : decode cX9_back 1 = .ok (.iload_n 1, 1) := by decide +kernel
theorem dX9_back_2 : decode cX9_back 2 = .ok (.invokevirtual 121, 3) := by decide +kernel
theorem dX9_back_5 : decode cX9_back 5 = .ok (.ifCond .ne 5, 3) := by decide +kernel
theorem dX9_back_8 : decode cX9_back 8 = .ok (.iconst (-1), 1) := by decide +kernel
theorem dX9_back_9 : decode cX9_back 9 = .ok (.ireturn, 1) := by decide +kernel
theorem dX9_back_10 : decode cX9_back 10 = .ok (.aload_n 0, 1) := by decide +kernel
theorem dX9_back_11 : decode cX9_back 11 = .ok (.getfield 23, 3) := by decide +kernel
theorem dX9_back_14 : decode cX9_back 14 = .ok (.bipush 8, 2) := by decide +kernel
theorem dX9_back_16 : decode cX9_back 16 = .ok (.iload_n 1, 1) := by decide +kernel
theorem dX9_back_17 : decode cX9_back 17 = .ok (.iadd, 1) := by decide +kernel
theorem dX9_back_18 : decode cX9_back 18 = .ok (.iaload, 1) := by decide +kernel
theorem dX9_back_19 : decode cX9_back 19 = .ok (.istore_n 2, 1) := by decide +kernel
theorem dX9_back_20 : decode cX9_back 20 = .ok (.iload_n 2, 1) := by decide +kernel
theorem dX9_back_21 : decode cX9_back 21 = .ok (.ifCond .ne 6, 3) := by decide +kernel
theorem dX9_back_24 : decode cX9_back 24 = .ok (.bipush (-2), 2) := by decide +kernel
theorem dX9_back_26 : decode cX9_back 26 = .ok (.ireturn, 1) := by decide +kernel
theorem dX9_back_27 : decode cX9_back 27 = .ok (.bipush (-4), 2) := by decide +kernel
theorem dX9_back_29 : decode cX9_back 29 = .ok (.istore_n 3, 1) := by decide +kernel
theorem dX9_back_30 : decode cX9_back 30 = .ok (.iconst 4, 1) := by decide +kernel
theorem dX9_back_31 : decode cX9_back 31 = .ok (.istore 4, 2) := by decide +kernel
theorem dX9_back_33 : decode cX9_back 33 = .ok (.iconst 0, 1) := by decide +kernel
theorem dX9_back_34 : decode cX9_back 34 = .ok (.istore 5, 2) := by decide +kernel
theorem dX9_back_36 : decode cX9_back 36 = .ok (.iload 5, 2) := by decide +kernel
theorem dX9_back_38 : decode cX9_back 38 = .ok (.sipush 4096, 3) := by decide +kernel
theorem dX9_back_41 : decode cX9_back 41 = .ok (.if_icmp .ge 66, 3) := by decide +kernel
theorem dX9_back_44 : decode cX9_back 44 = .ok (.iload 5, 2) := by decide +kernel
theorem dX9_back_46 : decode cX9_back 46 = .ok (.iload_n 2, 1) := by decide +kernel
theorem dX9_back_47 : decode cX9_back 47 = .ok (.iconst (-1), 1) := by decide +kernel
theorem dX9_back_48 : decode cX9_back 48 = .ok (.ixor, 1) := by decide +kernel
theorem dX9_back_49 : decode cX9_back 49 = .ok (.iand, 1) := by decide +kernel
theorem dX9_back_50 : decode cX9_back 50 = .ok (.ifCond .ne 17, 3) := by decide +kernel
theorem dX9_back_53 : decode cX9_back 53 = .ok (.iload 5, 2) := by decide +kernel
theorem dX9_back_55 : decode cX9_back 55 = .ok (.invokestatic 76, 3) := by decide +kernel
theorem dX9_back_58 : decode cX9_back 58 = .ok (.iload 4, 2) := by decide +kernel
theorem dX9_back_60 : decode cX9_back 60 = .ok (.if_icmp .ge 7, 3) := by decide +kernel
theorem dX9_back_63 : decode cX9_back 63 = .ok (.iconst 1, 1) := by decide +kernel
theorem dX9_back_64 : decode cX9_back 64 = .ok (.goto 4, 3) := by decide +kernel
theorem dX9_back_67 : decode cX9_back 67 = .ok (.iconst 0, 1) := by decide +kernel
theorem dX9_back_68 : decode cX9_back 68 = .ok (.istore 6, 2) := by decide +kernel
theorem dX9_back_70 : decode cX9_back 70 = .ok (.iload 6, 2) := by decide +kernel
theorem dX9_back_72 : decode cX9_back 72 = .ok (.ifCond .eq 29, 3) := by decide +kernel
theorem dX9_back_75 : decode cX9_back 75 = .ok (.aload_n 0, 1) := by decide +kernel
theorem dX9_back_76 : decode cX9_back 76 = .ok (.getfield 23, 3) := by decide +kernel
theorem dX9_back_79 : decode cX9_back 79 = .ok (.iload_n 2, 1) := by decide +kernel
theorem dX9_back_80 : decode cX9_back 80 = .ok (.iload 5, 2) := by decide +kernel
theorem dX9_back_82 : decode cX9_back 82 = .ok (.iconst (-1), 1) := by decide +kernel
theorem dX9_back_83 : decode cX9_back 83 = .ok (.ixor, 1) := by decide +kernel
theorem dX9_back_84 : decode cX9_back 84 = .ok (.iand, 1) := by decide +kernel
theorem dX9_back_85 : decode cX9_back 85 = .ok (.invokestatic 113, 3) := by decide +kernel
theorem dX9_back_88 : decode cX9_back 88 = .ok (.ifCond .lt 13, 3) := by decide +kernel
theorem dX9_back_91 : decode cX9_back 91 = .ok (.iload 5, 2) := by decide +kernel
theorem dX9_back_93 : decode cX9_back 93 = .ok (.istore_n 3, 1) := by decide +kernel
theorem dX9_back_94 : decode cX9_back 94 = .ok (.iload 5, 2) := by decide +kernel
theorem dX9_back_96 : decode cX9_back 96 = .ok (.invokestatic 76, 3) := by decide +kernel
theorem dX9_back_99 : decode cX9_back 99 = .ok (.istore 4, 2) := by decide +kernel
theorem dX9_back_101 : decode cX9_back 101 = .ok (.iinc 5 1, 3) := by decide +kernel
theorem dX9_back_104 : decode cX9_back 104 = .ok (.goto (-68), 3) := by decide +kernel
theorem dX9_back_107 : decode cX9_back 107 = .ok (.iload_n 3, 1) := by decide +kernel
theorem dX9_back_108 : decode cX9_back 108 = .ok (.ireturn, 1) := by decide +kernel
def R_X9_back (a1 : Int32) (σ : kS) (x : Int32) (τ : kS) : Prop := Run SM jX9_back [(.ref 0), (.int a1)] σ (some (.int x)) τ
def E_X9_back_36 (l2 : Int32) (l3 : Int32) (l4 : Int32) (l5 : Int32) (σ : kS) (x : Int32) (τ : kS) : Prop := Ex SM jX9_back 36 [some (.ref 0), none, some (.int l2), some (.int l3), some (.int l4), some (.int l5), none] [] σ (some (.int x)) τ
def E_X9_back_68 (l2 : Int32) (l3 : Int32) (l4 : Int32) (l5 : Int32) (y0 : Int32) (σ : kS) (x : Int32) (τ : kS) : Prop := Ex SM jX9_back 68 [some (.ref 0), none, some (.int l2), some (.int l3), some (.int l4), some (.int l5), none] [(.int y0)] σ (some (.int x)) τ
set_option maxRecDepth 20000 in
theorem t_X9_back {a1 : Int32} {σ : kS} {x : Int32} {τ : kS}  (h : ((iv a1 0 ((σ.1 5 2) - 1)) → vp_in ((8 : Int32) + a1) 38 ∧ ((¬ (σ.1 5 ((8 : Int32) + a1).toNatClampNeg) = 0 → E_X9_back_36 (σ.1 5 ((8 : Int32) + a1).toNatClampNeg) (-4 : Int32) (4 : Int32) (0 : Int32) σ x τ) ∧ ((σ.1 5 ((8 : Int32) + a1).toNatClampNeg) = 0 → x = (-2 : Int32) ∧ τ = σ))) ∧ (¬ (iv a1 0 ((σ.1 5 2) - 1)) → x = (-1 : Int32) ∧ τ = σ)) : R_X9_back a1 σ x τ := by
  refine x_run [some (.ref 0), some (.int a1), none, none, none, none, none] (by decide +kernel) rfl (Nat.le_of_ble_eq_true rfl) ?_
  refine x_aload_n (pc := 0) 0 dX9_back_0 rfl rfl ?_
  refine x_iload_n (pc := 1) 1 dX9_back_1 rfl rfl ?_
  refine x_callV (pc := 2) [(.int a1)] [] dX9_back_2 ⟨⟨hX9_isField.1, hX9_isField.2.1, hX9_isField.2.2, by decide⟩, mX9_121, vX9_isField.1, vX9_isField.2⟩ (ci := 9) rfl rfl rfl rfl (Nat.le_of_ble_eq_true rfl) (i_X9_isField) ?_
  refine x_bif_ne (pc := 5) 10 dX9_back_5 (by decide) (fun c1 => ?_) (fun c1 => ?_)
  · replace h := h.1 c1
    refine x_aload_n (pc := 10) 0 dX9_back_10 rfl rfl ?_
    refine x_getR (pc := 11) dX9_back_11 fX9_23 rfl rfl ?_
    refine x_bipush (pc := 14) (8 : Int32) dX9_back_14 (by decide +kernel) ?_
    refine x_iload_n (pc := 16) 1 dX9_back_16 rfl rfl ?_
    refine x_iadd (pc := 17) dX9_back_17 ?_
    obtain ⟨g2, h⟩ := h
    refine x_iaload (pc := 18) (n := 38) dX9_back_18 rfl g2 ?_
    refine x_istore_n (pc := 19) 2 dX9_back_19 rfl (by decide) rfl ?_
    refine x_iload_n (pc := 20) 2 dX9_back_20 rfl rfl ?_
    refine x_if_ne (pc := 21) 27 dX9_back_21 (by decide) (fun c3 => ?_) (fun c3 => ?_)
    · replace h := h.1 c3
      refine x_bipush (pc := 27) (-4 : Int32) dX9_back_27 (by decide +kernel) ?_
      refine x_istore_n (pc := 29) 3 dX9_back_29 rfl (by decide) rfl ?_
      refine x_iconst (pc := 30) (4 : Int32) dX9_back_30 (by decide +kernel) ?_
      refine x_istore (pc := 31) dX9_back_31 (by decide) rfl ?_
      refine x_iconst (pc := 33) (0 : Int32) dX9_back_33 (by decide +kernel) ?_
      refine x_istore (pc := 34) dX9_back_34 (by decide) rfl ?_
      exact x_mask [true, false, true, true, true, true, false] h
    · replace h := h.2 c3
      refine x_bipush (pc := 24) (-2 : Int32) dX9_back_24 (by decide +kernel) ?_
      exact x_ireturn2 (pc := 26) dX9_back_26 rfl h.1 h.2
  · replace h := h.2 c1
    refine x_iconst (pc := 8) (-1 : Int32) dX9_back_8 (by decide +kernel) ?_
    exact x_ireturn2 (pc := 9) dX9_back_9 rfl h.1 h.2
set_option maxRecDepth 20000 in
theorem t_X9_back_36 {l2 : Int32} {l3 : Int32} {l4 : Int32} {l5 : Int32} {σ : kS} {x : Int32} {τ : kS}  (h : ((4096 : Int32) ≤ l5 → x = l3 ∧ τ = σ) ∧ (¬ (4096 : Int32) ≤ l5 → (¬ (l5 &&& (l2 ^^^ (-1 : Int32))) = 0 → E_X9_back_68 l2 l3 l4 l5 (0 : Int32) σ x τ) ∧ ((l5 &&& (l2 ^^^ (-1 : Int32))) = 0 → ∃ (x4 : Int32) (s3 : kS), R_X9_bits l5 σ x4 s3 ∧ ((l4 ≤ x4 → E_X9_back_68 l2 l3 l4 l5 (0 : Int32) s3 x τ) ∧ (¬ l4 ≤ x4 → E_X9_back_68 l2 l3 l4 l5 (1 : Int32) s3 x τ))))) : E_X9_back_36 l2 l3 l4 l5 σ x τ := by
  unfold E_X9_back_36
  refine x_iload (pc := 36) dX9_back_36 rfl ?_
  refine x_sipush (pc := 38) (4096 : Int32) dX9_back_38 (by decide +kernel) ?_
  refine x_icmp_ge (pc := 41) 107 dX9_back_41 (by decide) (fun c1 => ?_) (fun c1 => ?_)
  · replace h := h.1 c1
    refine x_iload_n (pc := 107) 3 dX9_back_107 rfl rfl ?_
    exact x_ireturn2 (pc := 108) dX9_back_108 rfl h.1 h.2
  · replace h := h.2 c1
    refine x_iload (pc := 44) dX9_back_44 rfl ?_
    refine x_iload_n (pc := 46) 2 dX9_back_46 rfl rfl ?_
    refine x_iconst (pc := 47) (-1 : Int32) dX9_back_47 (by decide +kernel) ?_
    refine x_ixor (pc := 48) dX9_back_48 ?_
    refine x_iand (pc := 49) dX9_back_49 ?_
    refine x_if_ne (pc := 50) 67 dX9_back_50 (by decide) (fun c2 => ?_) (fun c2 => ?_)
    · replace h := h.1 c2
      refine x_iconst (pc := 67) (0 : Int32) dX9_back_67 (by decide +kernel) ?_
      exact h
    · replace h := h.2 c2
      refine x_iload (pc := 53) dX9_back_53 rfl ?_
      obtain ⟨x4, s3, hr, h⟩ := h
      refine x_callS (pc := 55) [(.int l5)] [] dX9_back_55 ⟨⟨hX9_bits.1, hX9_bits.2.1, hX9_bits.2.2, by decide⟩, mX9_76, sX9_bits⟩ rfl rfl (Nat.le_of_ble_eq_true rfl) hr ?_
      refine x_iload (pc := 58) dX9_back_58 rfl ?_
      refine x_icmp_ge (pc := 60) 67 dX9_back_60 (by decide) (fun c5 => ?_) (fun c5 => ?_)
      · replace h := h.1 c5
        refine x_iconst (pc := 67) (0 : Int32) dX9_back_67 (by decide +kernel) ?_
        exact h
      · replace h := h.2 c5
        refine x_iconst (pc := 63) (1 : Int32) dX9_back_63 (by decide +kernel) ?_
        refine x_goto (pc := 64) 68 dX9_back_64 (by decide) ?_
        exact h
set_option maxRecDepth 20000 in
theorem t_X9_back_68 {l2 : Int32} {l3 : Int32} {l4 : Int32} {l5 : Int32} {y0 : Int32} {σ : kS} {x : Int32} {τ : kS}  (h : (y0 = 0 → E_X9_back_36 l2 l3 l4 (l5 + (1 : Int32)) σ x τ) ∧ (¬ y0 = 0 → ∃ (x3 : Int32) (s2 : kS), R_X9_chordBy 5 (l2 &&& (l5 ^^^ (-1 : Int32))) σ x3 s2 ∧ ((x3 < 0 → E_X9_back_36 l2 l3 l4 (l5 + (1 : Int32)) s2 x τ) ∧ (¬ x3 < 0 → ∃ (x6 : Int32) (s5 : kS), R_X9_bits l5 s2 x6 s5 ∧ (E_X9_back_36 l2 l5 x6 (l5 + (1 : Int32)) s5 x τ))))) : E_X9_back_68 l2 l3 l4 l5 y0 σ x τ := by
  unfold E_X9_back_68
  refine x_istore (pc := 68) dX9_back_68 (by decide) rfl ?_
  refine x_iload (pc := 70) dX9_back_70 rfl ?_
  refine x_if_eq (pc := 72) 101 dX9_back_72 (by decide) (fun c1 => ?_) (fun c1 => ?_)
  · replace h := h.1 c1
    refine x_iinc (pc := 101) (1 : Int32) dX9_back_101 (by decide) rfl rfl (by decide +kernel) ?_
    refine x_goto (pc := 104) 36 dX9_back_104 (by decide) ?_
    exact x_mask [true, false, true, true, true, true, false] h
  · replace h := h.2 c1
    refine x_aload_n (pc := 75) 0 dX9_back_75 rfl rfl ?_
    refine x_getR (pc := 76) dX9_back_76 fX9_23 rfl rfl ?_
    refine x_iload_n (pc := 79) 2 dX9_back_79 rfl rfl ?_
    refine x_iload (pc := 80) dX9_back_80 rfl ?_
    refine x_iconst (pc := 82) (-1 : Int32) dX9_back_82 (by decide +kernel) ?_
    refine x_ixor (pc := 83) dX9_back_83 ?_
    refine x_iand (pc := 84) dX9_back_84 ?_
    obtain ⟨x3, s2, hr, h⟩ := h
    refine x_callS (pc := 85) [(.ref 5), (.int (l2 &&& (l5 ^^^ (-1 : Int32))))] [] dX9_back_85 ⟨⟨hX9_chordBy.1, hX9_chordBy.2.1, hX9_chordBy.2.2, by decide⟩, mX9_113, sX9_chordBy⟩ rfl rfl (Nat.le_of_ble_eq_true rfl) hr ?_
    refine x_if_lt (pc := 88) 101 dX9_back_88 (by decide) (fun c4 => ?_) (fun c4 => ?_)
    · replace h := h.1 c4
      refine x_iinc (pc := 101) (1 : Int32) dX9_back_101 (by decide) rfl rfl (by decide +kernel) ?_
      refine x_goto (pc := 104) 36 dX9_back_104 (by decide) ?_
      exact x_mask [true, false, true, true, true, true, false] h
    · replace h := h.2 c4
      refine x_iload (pc := 91) dX9_back_91 rfl ?_
      refine x_istore_n (pc := 93) 3 dX9_back_93 rfl (by decide) rfl ?_
      refine x_iload (pc := 94) dX9_back_94 rfl ?_
      obtain ⟨x6, s5, hr, h⟩ := h
      refine x_callS (pc := 96) [(.int l5)] [] dX9_back_96 ⟨⟨hX9_bits.1, hX9_bits.2.1, hX9_bits.2.2, by decide⟩, mX9_76, sX9_bits⟩ rfl rfl (Nat.le_of_ble_eq_true rfl) hr ?_
      refine x_istore (pc := 99) dX9_back_99 (by decide) rfl ?_
      refine x_iinc (pc := 101) (1 : Int32) dX9_back_101 (by decide) rfl rfl (by decide +kernel) ?_
      refine x_goto (pc := 104) 36 dX9_back_104 (by decide) ?_
      exact x_mask [true, false, true, true, true, true, false] h
theorem dX9_part_0 : decode cX9_part 0 = .ok (.iload_n 0, 1) := by decide +kernel
theorem dX9_part_1 : decode cX9_part 1 = .ok (.istore_n 3, 1) := by decide +kernel
theorem dX9_part_2 : decode cX9_part 2 = .ok (.iload_n 1, 1) := by decide +kernel
theorem dX9_part_3 : decode cX9_part 3 = .ok (.istore 4, 2) := by decide +kernel
theorem dX9_part_5 : decode cX9_part 5 = .ok (.iload 4, 2) := by decide +kernel
theorem dX9_part_7 : decode cX9_part 7 = .ok (.ifCond .le 19, 3) := by decide +kernel
theorem dX9_part_10 : decode cX9_part 10 = .ok (.iload_n 3, 1) := by decide +kernel
theorem dX9_part_11 : decode cX9_part 11 = .ok (.iload 4, 2) := by decide +kernel
theorem dX9_part_13 : decode cX9_part 13 = .ok (.irem, 1) := by decide +kernel
theorem dX9_part_14 : decode cX9_part 14 = .ok (.istore 5, 2) := by decide +kernel
theorem dX9_part_16 : decode cX9_part 16 = .ok (.iload 4, 2) := by decide +kernel
theorem dX9_part_18 : decode cX9_part 18 = .ok (.istore_n 3, 1) := by decide +kernel
theorem dX9_part_19 : decode cX9_part 19 = .ok (.iload 5, 2) := by decide +kernel
theorem dX9_part_21 : decode cX9_part 21 = .ok (.istore 4, 2) := by decide +kernel
theorem dX9_part_23 : decode cX9_part 23 = .ok (.goto (-18), 3) := by decide +kernel
theorem dX9_part_26 : decode cX9_part 26 = .ok (.iload_n 2, 1) := by decide +kernel
theorem dX9_part_27 : decode cX9_part 27 = .ok (.ifCond .ne 7, 3) := by decide +kernel
theorem dX9_part_30 : decode cX9_part 30 = .ok (.iload_n 0, 1) := by decide +kernel
theorem dX9_part_31 : decode cX9_part 31 = .ok (.goto 4, 3) := by decide +kernel
theorem dX9_part_34 : decode cX9_part 34 = .ok (.iload_n 1, 1) := by decide +kernel
theorem dX9_part_35 : decode cX9_part 35 = .ok (.iload_n 3, 1) := by decide +kernel
theorem dX9_part_36 : decode cX9_part 36 = .ok (.idiv, 1) := by decide +kernel
theorem dX9_part_37 : decode cX9_part 37 = .ok (.ireturn, 1) := by decide +kernel
def R_X9_part (a0 : Int32) (a1 : Int32) (a2 : Int32) (σ : kS) (x : Int32) (τ : kS) : Prop := Run SM jX9_part [(.int a0), (.int a1), (.int a2)] σ (some (.int x)) τ
def E_X9_part_5 (l0 : Int32) (l1 : Int32) (l2 : Int32) (l3 : Int32) (l4 : Int32) (σ : kS) (x : Int32) (τ : kS) : Prop := Ex SM jX9_part 5 [some (.int l0), some (.int l1), some (.int l2), some (.int l3), some (.int l4), none] [] σ (some (.int x)) τ
set_option maxRecDepth 20000 in
theorem t_X9_part {a0 : Int32} {a1 : Int32} {a2 : Int32} {σ : kS} {x : Int32} {τ : kS}  (h : E_X9_part_5 a0 a1 a2 a0 a1 σ x τ) : R_X9_part a0 a1 a2 σ x τ := by
  refine x_run [some (.int a0), some (.int a1), some (.int a2), none, none, none] (by decide +kernel) rfl (Nat.le_of_ble_eq_true rfl) ?_
  refine x_iload_n (pc := 0) 0 dX9_part_0 rfl rfl ?_
  refine x_istore_n (pc := 1) 3 dX9_part_1 rfl (by decide) rfl ?_
  refine x_iload_n (pc := 2) 1 dX9_part_2 rfl rfl ?_
  refine x_istore (pc := 3) dX9_part_3 (by decide) rfl ?_
  exact h
set_option maxRecDepth 20000 in
theorem t_X9_part_5 {l0 : Int32} {l1 : Int32} {l2 : Int32} {l3 : Int32} {l4 : Int32} {σ : kS} {x : Int32} {τ : kS}  (h : (l4 ≤ 0 → (¬ l2 = 0 → ¬ l3 = 0 ∧ (x = (l1 / l3) ∧ τ = σ)) ∧ (l2 = 0 → ¬ l3 = 0 ∧ (x = (l0 / l3) ∧ τ = σ))) ∧ (¬ l4 ≤ 0 → ¬ l4 = 0 ∧ (E_X9_part_5 l0 l1 l2 l4 (l3 - l3 / l4 * l4) σ x τ))) : E_X9_part_5 l0 l1 l2 l3 l4 σ x τ := by
  unfold E_X9_part_5
  refine x_iload (pc := 5) dX9_part_5 rfl ?_
  refine x_if_le (pc := 7) 26 dX9_part_7 (by decide) (fun c1 => ?_) (fun c1 => ?_)
  · replace h := h.1 c1
    refine x_iload_n (pc := 26) 2 dX9_part_26 rfl rfl ?_
    refine x_if_ne (pc := 27) 34 dX9_part_27 (by decide) (fun c2 => ?_) (fun c2 => ?_)
    · replace h := h.1 c2
      refine x_iload_n (pc := 34) 1 dX9_part_34 rfl rfl ?_
      refine x_iload_n (pc := 35) 3 dX9_part_35 rfl rfl ?_
      obtain ⟨g3, h⟩ := h
      refine x_idiv (pc := 36) dX9_part_36 g3 ?_
      exact x_ireturn2 (pc := 37) dX9_part_37 rfl h.1 h.2
    · replace h := h.2 c2
      refine x_iload_n (pc := 30) 0 dX9_part_30 rfl rfl ?_
      refine x_goto (pc := 31) 35 dX9_part_31 (by decide) ?_
      refine x_iload_n (pc := 35) 3 dX9_part_35 rfl rfl ?_
      obtain ⟨g4, h⟩ := h
      refine x_idiv (pc := 36) dX9_part_36 g4 ?_
      exact x_ireturn2 (pc := 37) dX9_part_37 rfl h.1 h.2
  · replace h := h.2 c1
    refine x_iload_n (pc := 10) 3 dX9_part_10 rfl rfl ?_
    refine x_iload (pc := 11) dX9_part_11 rfl ?_
    obtain ⟨g5, h⟩ := h
    refine x_irem (pc := 13) dX9_part_13 g5 ?_
    refine x_istore (pc := 14) dX9_part_14 (by decide) rfl ?_
    refine x_iload (pc := 16) dX9_part_16 rfl ?_
    refine x_istore_n (pc := 18) 3 dX9_part_18 rfl (by decide) rfl ?_
    refine x_iload (pc := 19) dX9_part_19 rfl ?_
    refine x_istore (pc := 21) dX9_part_21 (by decide) rfl ?_
    refine x_goto (pc := 23) 5 dX9_part_23 (by decide) ?_
    exact x_mask [true, true, true, true, true, false] h
theorem dX9_wind_0 : decode cX9_wind 0 = .ok (.aload_n 0, 1) := by decide +kernel
theorem dX9_wind_1 : decode cX9_wind 1 = .ok (.iload_n 1, 1) := by decide +kernel
theorem dX9_wind_2 : decode cX9_wind 2 = .ok (.invokevirtual 121, 3) := by decide +kernel
theorem dX9_wind_5 : decode cX9_wind 5 = .ok (.ifCond .eq 22, 3) := by decide +kernel
theorem dX9_wind_8 : decode cX9_wind 8 = .ok (.iload_n 2, 1) := by decide +kernel
theorem dX9_wind_9 : decode cX9_wind 9 = .ok (.iconst 0, 1) := by decide +kernel
theorem dX9_wind_10 : decode cX9_wind 10 = .ok (.bipush 10, 2) := by decide +kernel
theorem dX9_wind_12 : decode cX9_wind 12 = .ok (.invokestatic 54, 3) := by decide +kernel
theorem dX9_wind_15 : decode cX9_wind 15 = .ok (.ifCond .eq 12, 3) := by decide +kernel
theorem dX9_wind_18 : decode cX9_wind 18 = .ok (.iload_n 3, 1) := by decide +kernel
theorem dX9_wind_19 : decode cX9_wind 19 = .ok (.iconst 0, 1) := by decide +kernel
theorem dX9_wind_20 : decode cX9_wind 20 = .ok (.iconst 1, 1) := by decide +kernel
theorem dX9_wind_21 : decode cX9_wind 21 = .ok (.invokestatic 54, 3) := by decide +kernel
theorem dX9_wind_24 : decode cX9_wind 24 = .ok (.ifCond .ne 5, 3) := by decide +kernel
theorem dX9_wind_27 : decode cX9_wind 27 = .ok (.iconst (-1), 1) := by decide +kernel
theorem dX9_wind_28 : decode cX9_wind 28 = .ok (.ireturn, 1) := by decide +kernel
theorem dX9_wind_29 : decode cX9_wind 29 = .ok (.aload_n 0, 1) := by decide +kernel
theorem dX9_wind_30 : decode cX9_wind 30 = .ok (.getfield 23, 3) := by decide +kernel
theorem dX9_wind_33 : decode cX9_wind 33 = .ok (.iload_n 1, 1) := by decide +kernel
theorem dX9_wind_34 : decode cX9_wind 34 = .ok (.invokestatic 124, 3) := by decide +kernel
theorem dX9_wind_37 : decode cX9_wind 37 = .ok (.istore 4, 2) := by decide +kernel
theorem dX9_wind_39 : decode cX9_wind 39 = .ok (.iconst 0, 1) := by decide +kernel
theorem dX9_wind_40 : decode cX9_wind 40 = .ok (.istore 5, 2) := by decide +kernel
theorem dX9_wind_42 : decode cX9_wind 42 = .ok (.iconst 1, 1) := by decide +kernel
theorem dX9_wind_43 : decode cX9_wind 43 = .ok (.istore 6, 2) := by decide +kernel
theorem dX9_wind_45 : decode cX9_wind 45 = .ok (.iconst 0, 1) := by decide +kernel
theorem dX9_wind_46 : decode cX9_wind 46 = .ok (.istore 7, 2) := by decide +kernel
theorem dX9_wind_48 : decode cX9_wind 48 = .ok (.iload 7, 2) := by decide +kernel
theorem dX9_wind_50 : decode cX9_wind 50 = .ok (.aload_n 0, 1) := by decide +kernel
theorem dX9_wind_51 : decode cX9_wind 51 = .ok (.getfield 23, 3) := by decide +kernel
theorem dX9_wind_54 : decode cX9_wind 54 = .ok (.iconst 3, 1) := by decide +kernel
theorem dX9_wind_55 : decode cX9_wind 55 = .ok (.iaload, 1) := by decide +kernel
theorem dX9_wind_56 : decode cX9_wind 56 = .ok (.if_icmp .ge 16, 3) := by decide +kernel
theorem dX9_wind_59 : decode cX9_wind 59 = .ok (.iload 6, 2) := by decide +kernel
theorem dX9_wind_61 : decode cX9_wind 61 = .ok (.bipush 10, 2) := by decide +kernel
theorem dX9_wind_63 : decode cX9_wind 63 = .ok (.imul, 1) := by decide +kernel
theorem dX9_wind_64 : decode cX9_wind 64 = .ok (.istore 6, 2) := by decide +kernel
theorem dX9_wind_66 : decode cX9_wind 66 = .ok (.iinc 7 1, 3) := by decide +kernel
theorem dX9_wind_69 : decode cX9_wind 69 = .ok (.goto (-21), 3) := by decide +kernel
theorem dX9_wind_72 : decode cX9_wind 72 = .ok (.iconst 0, 1) := by decide +kernel
theorem dX9_wind_73 : decode cX9_wind 73 = .ok (.istore 7, 2) := by decide +kernel
theorem dX9_wind_75 : decode cX9_wind 75 = .ok (.iload 7, 2) := by decide +kernel
theorem dX9_wind_77 : decode cX9_wind 77 = .ok (.iconst 1, 1) := by decide +kernel
theorem dX9_wind_78 : decode cX9_wind 78 = .ok (.aload_n 0, 1) := by decide +kernel
theorem dX9_wind_79 : decode cX9_wind 79 = .ok (.getfield 23, 3) := by decide +kernel
theorem dX9_wind_82 : decode cX9_wind 82 = .ok (.iconst 3, 1) := by decide +kernel
theorem dX9_wind_83 : decode cX9_wind 83 = .ok (.iaload, 1) := by decide +kernel
theorem dX9_wind_84 : decode cX9_wind 84 = .ok (.ishl, 1) := by decide +kernel
theorem dX9_wind_85 : decode cX9_wind 85 = .ok (.if_icmp .ge 85, 3) := by decide +kernel
theorem dX9_wind_88 : decode cX9_wind 88 = .ok (.iconst 1, 1) := by decide +kernel
theorem dX9_wind_89 : decode cX9_wind 89 = .ok (.istore 8, 2) := by decide +kernel
theorem dX9_wind_91 : decode cX9_wind 91 = .ok (.iconst 0, 1) := by decide +kernel
theorem dX9_wind_92 : decode cX9_wind 92 = .ok (.istore 9, 2) := by decide +kernel
theorem dX9_wind_94 : decode cX9_wind 94 = .ok (.iload 9, 2) := by decide +kernel
theorem dX9_wind_96 : decode cX9_wind 96 = .ok (.aload_n 0, 1) := by decide +kernel
theorem dX9_wind_97 : decode cX9_wind 97 = .ok (.getfield 23, 3) := by decide +kernel
theorem dX9_wind_100 : decode cX9_wind 100 = .ok (.iconst 3, 1) := by decide +kernel
theorem dX9_wind_101 : decode cX9_wind 101 = .ok (.iaload, 1) := by decide +kernel
theorem dX9_wind_102 : decode cX9_wind 102 = .ok (.if_icmp .ge 32, 3) := by decide +kernel
theorem dX9_wind_105 : decode cX9_wind 105 = .ok (.iload 8, 2) := by decide +kernel
theorem dX9_wind_107 : decode cX9_wind 107 = .ok (.iload 7, 2) := by decide +kernel
theorem dX9_wind_109 : decode cX9_wind 109 = .ok (.iload 9, 2) := by decide +kernel
theorem dX9_wind_111 : decode cX9_wind 111 = .ok (.invokestatic 133, 3) := by decide +kernel
theorem dX9_wind_114 : decode cX9_wind 114 = .ok (.ifCond .eq 7, 3) := by decide +kernel
theorem dX9_wind_117 : decode cX9_wind 117 = .ok (.iload_n 2, 1) := by decide +kernel
theorem dX9_wind_118 : decode cX9_wind 118 = .ok (.goto 7, 3) := by decide +kernel
theorem dX9_wind_121 : decode cX9_wind 121 = .ok (.bipush 10, 2) := by decide +kernel
theorem dX9_wind_123 : decode cX9_wind 123 = .ok (.iload_n 2, 1) := by decide +kernel
theorem dX9_wind_124 : decode cX9_wind 124 = .ok (.isub, 1) := by decide +kernel
theorem dX9_wind_125 : decode cX9_wind 125 = .ok (.imul, 1) := by decide +kernel
theorem dX9_wind_126 : decode cX9_wind 126 = .ok (.istore 8, 2) := by decide +kernel
theorem dX9_wind_128 : decode cX9_wind 128 = .ok (.iinc 9 1, 3) := by decide +kernel
theorem dX9_wind_131 : decode cX9_wind 131 = .ok (.goto (-37), 3) := by decide +kernel
theorem dX9_wind_134 : decode cX9_wind 134 = .ok (.iload 5, 2) := by decide +kernel
theorem dX9_wind_136 : decode cX9_wind 136 = .ok (.aload_n 0, 1) := by decide +kernel
theorem dX9_wind_137 : decode cX9_wind 137 = .ok (.aload_n 0, 1) := by decide +kernel
theorem dX9_wind_138 : decode cX9_wind 138 = .ok (.getfield 23, 3) := by decide +kernel
theorem dX9_wind_141 : decode cX9_wind 141 = .ok (.iload_n 1, 1) := by decide +kernel
theorem dX9_wind_142 : decode cX9_wind 142 = .ok (.iload 4, 2) := by decide +kernel
theorem dX9_wind_144 : decode cX9_wind 144 = .ok (.iload 7, 2) := by decide +kernel
theorem dX9_wind_146 : decode cX9_wind 146 = .ok (.iconst (-1), 1) := by decide +kernel
theorem dX9_wind_147 : decode cX9_wind 147 = .ok (.ixor, 1) := by decide +kernel
theorem dX9_wind_148 : decode cX9_wind 148 = .ok (.iand, 1) := by decide +kernel
theorem dX9_wind_149 : decode cX9_wind 149 = .ok (.invokevirtual 153, 3) := by decide +kernel
theorem dX9_wind_152 : decode cX9_wind 152 = .ok (.ifCond .ne 8, 3) := by decide +kernel
theorem dX9_wind_155 : decode cX9_wind 155 = .ok (.iload 8, 2) := by decide +kernel
theorem dX9_wind_157 : decode cX9_wind 157 = .ok (.goto 4, 3) := by decide +kernel
theorem dX9_wind_160 : decode cX9_wind 160 = .ok (.iconst 0, 1) := by decide +kernel
theorem dX9_wind_161 : decode cX9_wind 161 = .ok (.iadd, 1) := by decide +kernel
theorem dX9_wind_162 : decode cX9_wind 162 = .ok (.istore 5, 2) := by decide +kernel
theorem dX9_wind_164 : decode cX9_wind 164 = .ok (.iinc 7 1, 3) := by decide +kernel
theorem dX9_wind_167 : decode cX9_wind 167 = .ok (.goto (-92), 3) := by decide +kernel
theorem dX9_wind_170 : decode cX9_wind 170 = .ok (.iload 5, 2) := by decide +kernel
theorem dX9_wind_172 : decode cX9_wind 172 = .ok (.iload 6, 2) := by decide +kernel
theorem dX9_wind_174 : decode cX9_wind 174 = .ok (.iload_n 3, 1) := by decide +kernel
theorem dX9_wind_175 : decode cX9_wind 175 = .ok (.invokestatic 188, 3) := by decide +kernel
theorem dX9_wind_178 : decode cX9_wind 178 = .ok (.ireturn, 1) := by decide +kernel
def R_X9_wind (a1 : Int32) (a2 : Int32) (a3 : Int32) (σ : kS) (x : Int32) (τ : kS) : Prop := Run SM jX9_wind [(.ref 0), (.int a1), (.int a2), (.int a3)] σ (some (.int x)) τ
def E_X9_wind_48 (l1 : Int32) (l2 : Int32) (l3 : Int32) (l4 : Int32) (l5 : Int32) (l6 : Int32) (l7 : Int32) (σ : kS) (x : Int32) (τ : kS) : Prop := Ex SM jX9_wind 48 [some (.ref 0), some (.int l1), some (.int l2), some (.int l3), some (.int l4), some (.int l5), some (.int l6), some (.int l7), none, none] [] σ (some (.int x)) τ
def E_X9_wind_75 (l1 : Int32) (l2 : Int32) (l3 : Int32) (l4 : Int32) (l5 : Int32) (l6 : Int32) (l7 : Int32) (σ : kS) (x : Int32) (τ : kS) : Prop := Ex SM jX9_wind 75 [some (.ref 0), some (.int l1), some (.int l2), some (.int l3), some (.int l4), some (.int l5), some (.int l6), some (.int l7), none, none] [] σ (some (.int x)) τ
def E_X9_wind_94 (l1 : Int32) (l2 : Int32) (l3 : Int32) (l4 : Int32) (l5 : Int32) (l6 : Int32) (l7 : Int32) (l8 : Int32) (l9 : Int32) (σ : kS) (x : Int32) (τ : kS) : Prop := Ex SM jX9_wind 94 [some (.ref 0), some (.int l1), some (.int l2), some (.int l3), some (.int l4), some (.int l5), some (.int l6), some (.int l7), some (.int l8), some (.int l9)] [] σ (some (.int x)) τ
set_option maxRecDepth 20000 in
theorem t_X9_wind {a1 : Int32} {a2 : Int32} {a3 : Int32} {σ : kS} {x : Int32} {τ : kS}  (h : (¬ (iv a1 0 ((σ.1 5 2) - 1)) → x = (-1 : Int32) ∧ τ = σ) ∧ ((iv a1 0 ((σ.1 5 2) - 1)) → (¬ (iv a2 (0 : Int32) (10 : Int32)) → x = (-1 : Int32) ∧ τ = σ) ∧ ((iv a2 (0 : Int32) (10 : Int32)) → ((iv a3 (0 : Int32) (1 : Int32)) → ∃ (x5 : Int32) (s4 : kS), R_X9_whoAt 5 a1 σ x5 s4 ∧ (E_X9_wind_48 a1 a2 a3 x5 (0 : Int32) (1 : Int32) (0 : Int32) s4 x τ)) ∧ (¬ (iv a3 (0 : Int32) (1 : Int32)) → x = (-1 : Int32) ∧ τ = σ)))) : R_X9_wind a1 a2 a3 σ x τ := by
  refine x_run [some (.ref 0), some (.int a1), some (.int a2), some (.int a3), none, none, none, none, none, none] (by decide +kernel) rfl (Nat.le_of_ble_eq_true rfl) ?_
  refine x_aload_n (pc := 0) 0 dX9_wind_0 rfl rfl ?_
  refine x_iload_n (pc := 1) 1 dX9_wind_1 rfl rfl ?_
  refine x_callV (pc := 2) [(.int a1)] [] dX9_wind_2 ⟨⟨hX9_isField.1, hX9_isField.2.1, hX9_isField.2.2, by decide⟩, mX9_121, vX9_isField.1, vX9_isField.2⟩ (ci := 9) rfl rfl rfl rfl (Nat.le_of_ble_eq_true rfl) (i_X9_isField) ?_
  refine x_bif_eq (pc := 5) 27 dX9_wind_5 (by decide) (fun c1 => ?_) (fun c1 => ?_)
  · replace h := h.1 c1
    refine x_iconst (pc := 27) (-1 : Int32) dX9_wind_27 (by decide +kernel) ?_
    exact x_ireturn2 (pc := 28) dX9_wind_28 rfl h.1 h.2
  · replace h := h.2 c1
    refine x_iload_n (pc := 8) 2 dX9_wind_8 rfl rfl ?_
    refine x_iconst (pc := 9) (0 : Int32) dX9_wind_9 (by decide +kernel) ?_
    refine x_bipush (pc := 10) (10 : Int32) dX9_wind_10 (by decide +kernel) ?_
    refine x_callS (pc := 12) [(.int a2), (.int (0 : Int32)), (.int (10 : Int32))] [] dX9_wind_12 ⟨⟨hX9_in.1, hX9_in.2.1, hX9_in.2.2, by decide⟩, mX9_54, sX9_in⟩ rfl rfl (Nat.le_of_ble_eq_true rfl) (i_X9_in) ?_
    refine x_bif_eq (pc := 15) 27 dX9_wind_15 (by decide) (fun c2 => ?_) (fun c2 => ?_)
    · replace h := h.1 c2
      refine x_iconst (pc := 27) (-1 : Int32) dX9_wind_27 (by decide +kernel) ?_
      exact x_ireturn2 (pc := 28) dX9_wind_28 rfl h.1 h.2
    · replace h := h.2 c2
      refine x_iload_n (pc := 18) 3 dX9_wind_18 rfl rfl ?_
      refine x_iconst (pc := 19) (0 : Int32) dX9_wind_19 (by decide +kernel) ?_
      refine x_iconst (pc := 20) (1 : Int32) dX9_wind_20 (by decide +kernel) ?_
      refine x_callS (pc := 21) [(.int a3), (.int (0 : Int32)), (.int (1 : Int32))] [] dX9_wind_21 ⟨⟨hX9_in.1, hX9_in.2.1, hX9_in.2.2, by decide⟩, mX9_54, sX9_in⟩ rfl rfl (Nat.le_of_ble_eq_true rfl) (i_X9_in) ?_
      refine x_bif_ne (pc := 24) 29 dX9_wind_24 (by decide) (fun c3 => ?_) (fun c3 => ?_)
      · replace h := h.1 c3
        refine x_aload_n (pc := 29) 0 dX9_wind_29 rfl rfl ?_
        refine x_getR (pc := 30) dX9_wind_30 fX9_23 rfl rfl ?_
        refine x_iload_n (pc := 33) 1 dX9_wind_33 rfl rfl ?_
        obtain ⟨x5, s4, hr, h⟩ := h
        refine x_callS (pc := 34) [(.ref 5), (.int a1)] [] dX9_wind_34 ⟨⟨hX9_whoAt.1, hX9_whoAt.2.1, hX9_whoAt.2.2, by decide⟩, mX9_124, sX9_whoAt⟩ rfl rfl (Nat.le_of_ble_eq_true rfl) hr ?_
        refine x_istore (pc := 37) dX9_wind_37 (by decide) rfl ?_
        refine x_iconst (pc := 39) (0 : Int32) dX9_wind_39 (by decide +kernel) ?_
        refine x_istore (pc := 40) dX9_wind_40 (by decide) rfl ?_
        refine x_iconst (pc := 42) (1 : Int32) dX9_wind_42 (by decide +kernel) ?_
        refine x_istore (pc := 43) dX9_wind_43 (by decide) rfl ?_
        refine x_iconst (pc := 45) (0 : Int32) dX9_wind_45 (by decide +kernel) ?_
        refine x_istore (pc := 46) dX9_wind_46 (by decide) rfl ?_
        exact h
      · replace h := h.2 c3
        refine x_iconst (pc := 27) (-1 : Int32) dX9_wind_27 (by decide +kernel) ?_
        exact x_ireturn2 (pc := 28) dX9_wind_28 rfl h.1 h.2
set_option maxRecDepth 20000 in
theorem t_X9_wind_48 {l1 : Int32} {l2 : Int32} {l3 : Int32} {l4 : Int32} {l5 : Int32} {l6 : Int32} {l7 : Int32} {σ : kS} {x : Int32} {τ : kS}  (h : ((σ.1 5 3) ≤ l7 → E_X9_wind_75 l1 l2 l3 l4 l5 l6 (0 : Int32) σ x τ) ∧ (¬ (σ.1 5 3) ≤ l7 → E_X9_wind_48 l1 l2 l3 l4 l5 (l6 * (10 : Int32)) (l7 + (1 : Int32)) σ x τ)) : E_X9_wind_48 l1 l2 l3 l4 l5 l6 l7 σ x τ := by
  unfold E_X9_wind_48
  refine x_iload (pc := 48) dX9_wind_48 rfl ?_
  refine x_aload_n (pc := 50) 0 dX9_wind_50 rfl rfl ?_
  refine x_getR (pc := 51) dX9_wind_51 fX9_23 rfl rfl ?_
  refine x_iconst (pc := 54) (3 : Int32) dX9_wind_54 (by decide +kernel) ?_
  refine x_ialoadK (pc := 55) (n := 38) 3 dX9_wind_55 rfl (by decide) (by decide +kernel) ?_
  refine x_icmp_ge (pc := 56) 72 dX9_wind_56 (by decide) (fun c1 => ?_) (fun c1 => ?_)
  · replace h := h.1 c1
    refine x_iconst (pc := 72) (0 : Int32) dX9_wind_72 (by decide +kernel) ?_
    refine x_istore (pc := 73) dX9_wind_73 (by decide) rfl ?_
    exact h
  · replace h := h.2 c1
    refine x_iload (pc := 59) dX9_wind_59 rfl ?_
    refine x_bipush (pc := 61) (10 : Int32) dX9_wind_61 (by decide +kernel) ?_
    refine x_imul (pc := 63) dX9_wind_63 ?_
    refine x_istore (pc := 64) dX9_wind_64 (by decide) rfl ?_
    refine x_iinc (pc := 66) (1 : Int32) dX9_wind_66 (by decide) rfl rfl (by decide +kernel) ?_
    refine x_goto (pc := 69) 48 dX9_wind_69 (by decide) ?_
    exact h
set_option maxRecDepth 20000 in
theorem t_X9_wind_75 {l1 : Int32} {l2 : Int32} {l3 : Int32} {l4 : Int32} {l5 : Int32} {l6 : Int32} {l7 : Int32} {σ : kS} {x : Int32} {τ : kS}  (h : (((1 : Int32) <<< ((σ.1 5 3) &&& 31)) ≤ l7 → ∃ (x3 : Int32) (s2 : kS), R_X9_part l5 l6 l3 σ x3 s2 ∧ (x = x3 ∧ τ = s2)) ∧ (¬ ((1 : Int32) <<< ((σ.1 5 3) &&& 31)) ≤ l7 → E_X9_wind_94 l1 l2 l3 l4 l5 l6 l7 (1 : Int32) (0 : Int32) σ x τ)) : E_X9_wind_75 l1 l2 l3 l4 l5 l6 l7 σ x τ := by
  unfold E_X9_wind_75
  refine x_iload (pc := 75) dX9_wind_75 rfl ?_
  refine x_iconst (pc := 77) (1 : Int32) dX9_wind_77 (by decide +kernel) ?_
  refine x_aload_n (pc := 78) 0 dX9_wind_78 rfl rfl ?_
  refine x_getR (pc := 79) dX9_wind_79 fX9_23 rfl rfl ?_
  refine x_iconst (pc := 82) (3 : Int32) dX9_wind_82 (by decide +kernel) ?_
  refine x_ialoadK (pc := 83) (n := 38) 3 dX9_wind_83 rfl (by decide) (by decide +kernel) ?_
  refine x_ishl (pc := 84) dX9_wind_84 ?_
  refine x_icmp_ge (pc := 85) 170 dX9_wind_85 (by decide) (fun c1 => ?_) (fun c1 => ?_)
  · replace h := h.1 c1
    refine x_iload (pc := 170) dX9_wind_170 rfl ?_
    refine x_iload (pc := 172) dX9_wind_172 rfl ?_
    refine x_iload_n (pc := 174) 3 dX9_wind_174 rfl rfl ?_
    obtain ⟨x3, s2, hr, h⟩ := h
    refine x_callS (pc := 175) [(.int l5), (.int l6), (.int l3)] [] dX9_wind_175 ⟨⟨hX9_part.1, hX9_part.2.1, hX9_part.2.2, by decide⟩, mX9_188, sX9_part⟩ rfl rfl (Nat.le_of_ble_eq_true rfl) hr ?_
    exact x_ireturn2 (pc := 178) dX9_wind_178 rfl h.1 h.2
  · replace h := h.2 c1
    refine x_iconst (pc := 88) (1 : Int32) dX9_wind_88 (by decide +kernel) ?_
    refine x_istore (pc := 89) dX9_wind_89 (by decide) rfl ?_
    refine x_iconst (pc := 91) (0 : Int32) dX9_wind_91 (by decide +kernel) ?_
    refine x_istore (pc := 92) dX9_wind_92 (by decide) rfl ?_
    exact h
set_option maxRecDepth 20000 in
theorem t_X9_wind_94 {l1 : Int32} {l2 : Int32} {l3 : Int32} {l4 : Int32} {l5 : Int32} {l6 : Int32} {l7 : Int32} {l8 : Int32} {l9 : Int32} {σ : kS} {x : Int32} {τ : kS}  (h : ((σ.1 5 3) ≤ l9 → ∃ (x3 : Int32) (s2 : kS), R_X9_singIn 5 l1 (l4 &&& (l7 ^^^ (-1 : Int32))) σ x3 s2 ∧ ((¬ x3 = 0 → E_X9_wind_75 l1 l2 l3 l4 (l5 + (0 : Int32)) l6 (l7 + (1 : Int32)) s2 x τ) ∧ (x3 = 0 → E_X9_wind_75 l1 l2 l3 l4 (l5 + l8) l6 (l7 + (1 : Int32)) s2 x τ))) ∧ (¬ (σ.1 5 3) ≤ l9 → (¬ (hs l7 l9) → E_X9_wind_94 l1 l2 l3 l4 l5 l6 l7 (l8 * ((10 : Int32) - l2)) (l9 + (1 : Int32)) σ x τ) ∧ ((hs l7 l9) → E_X9_wind_94 l1 l2 l3 l4 l5 l6 l7 (l8 * l2) (l9 + (1 : Int32)) σ x τ))) : E_X9_wind_94 l1 l2 l3 l4 l5 l6 l7 l8 l9 σ x τ := by
  unfold E_X9_wind_94
  refine x_iload (pc := 94) dX9_wind_94 rfl ?_
  refine x_aload_n (pc := 96) 0 dX9_wind_96 rfl rfl ?_
  refine x_getR (pc := 97) dX9_wind_97 fX9_23 rfl rfl ?_
  refine x_iconst (pc := 100) (3 : Int32) dX9_wind_100 (by decide +kernel) ?_
  refine x_ialoadK (pc := 101) (n := 38) 3 dX9_wind_101 rfl (by decide) (by decide +kernel) ?_
  refine x_icmp_ge (pc := 102) 134 dX9_wind_102 (by decide) (fun c1 => ?_) (fun c1 => ?_)
  · replace h := h.1 c1
    refine x_iload (pc := 134) dX9_wind_134 rfl ?_
    refine x_aload_n (pc := 136) 0 dX9_wind_136 rfl rfl ?_
    refine x_aload_n (pc := 137) 0 dX9_wind_137 rfl rfl ?_
    refine x_getR (pc := 138) dX9_wind_138 fX9_23 rfl rfl ?_
    refine x_iload_n (pc := 141) 1 dX9_wind_141 rfl rfl ?_
    refine x_iload (pc := 142) dX9_wind_142 rfl ?_
    refine x_iload (pc := 144) dX9_wind_144 rfl ?_
    refine x_iconst (pc := 146) (-1 : Int32) dX9_wind_146 (by decide +kernel) ?_
    refine x_ixor (pc := 147) dX9_wind_147 ?_
    refine x_iand (pc := 148) dX9_wind_148 ?_
    obtain ⟨x3, s2, hr, h⟩ := h
    refine x_callV (pc := 149) [(.ref 5), (.int l1), (.int (l4 &&& (l7 ^^^ (-1 : Int32))))] [(.int l5)] dX9_wind_149 ⟨⟨hX9_singIn.1, hX9_singIn.2.1, hX9_singIn.2.2, by decide⟩, mX9_153, vX9_singIn.1, vX9_singIn.2⟩ (ci := 9) rfl rfl rfl rfl (Nat.le_of_ble_eq_true rfl) hr ?_
    refine x_if_ne (pc := 152) 160 dX9_wind_152 (by decide) (fun c4 => ?_) (fun c4 => ?_)
    · replace h := h.1 c4
      refine x_iconst (pc := 160) (0 : Int32) dX9_wind_160 (by decide +kernel) ?_
      refine x_iadd (pc := 161) dX9_wind_161 ?_
      refine x_istore (pc := 162) dX9_wind_162 (by decide) rfl ?_
      refine x_iinc (pc := 164) (1 : Int32) dX9_wind_164 (by decide) rfl rfl (by decide +kernel) ?_
      refine x_goto (pc := 167) 75 dX9_wind_167 (by decide) ?_
      exact x_mask [true, true, true, true, true, true, true, true, false, false] h
    · replace h := h.2 c4
      refine x_iload (pc := 155) dX9_wind_155 rfl ?_
      refine x_goto (pc := 157) 161 dX9_wind_157 (by decide) ?_
      refine x_iadd (pc := 161) dX9_wind_161 ?_
      refine x_istore (pc := 162) dX9_wind_162 (by decide) rfl ?_
      refine x_iinc (pc := 164) (1 : Int32) dX9_wind_164 (by decide) rfl rfl (by decide +kernel) ?_
      refine x_goto (pc := 167) 75 dX9_wind_167 (by decide) ?_
      exact x_mask [true, true, true, true, true, true, true, true, false, false] h
  · replace h := h.2 c1
    refine x_iload (pc := 105) dX9_wind_105 rfl ?_
    refine x_iload (pc := 107) dX9_wind_107 rfl ?_
    refine x_iload (pc := 109) dX9_wind_109 rfl ?_
    refine x_callS (pc := 111) [(.int l7), (.int l9)] [(.int l8)] dX9_wind_111 ⟨⟨hX9_has.1, hX9_has.2.1, hX9_has.2.2, by decide⟩, mX9_133, sX9_has⟩ rfl rfl (Nat.le_of_ble_eq_true rfl) (i_X9_has) ?_
    refine x_bif_eq (pc := 114) 121 dX9_wind_114 (by decide) (fun c5 => ?_) (fun c5 => ?_)
    · replace h := h.1 c5
      refine x_bipush (pc := 121) (10 : Int32) dX9_wind_121 (by decide +kernel) ?_
      refine x_iload_n (pc := 123) 2 dX9_wind_123 rfl rfl ?_
      refine x_isub (pc := 124) dX9_wind_124 ?_
      refine x_imul (pc := 125) dX9_wind_125 ?_
      refine x_istore (pc := 126) dX9_wind_126 (by decide) rfl ?_
      refine x_iinc (pc := 128) (1 : Int32) dX9_wind_128 (by decide) rfl rfl (by decide +kernel) ?_
      refine x_goto (pc := 131) 94 dX9_wind_131 (by decide) ?_
      exact h
    · replace h := h.2 c5
      refine x_iload_n (pc := 117) 2 dX9_wind_117 rfl rfl ?_
      refine x_goto (pc := 118) 125 dX9_wind_118 (by decide) ?_
      refine x_imul (pc := 125) dX9_wind_125 ?_
      refine x_istore (pc := 126) dX9_wind_126 (by decide) rfl ?_
      refine x_iinc (pc := 128) (1 : Int32) dX9_wind_128 (by decide) rfl rfl (by decide +kernel) ?_
      refine x_goto (pc := 131) 94 dX9_wind_131 (by decide) ?_
      exact h
theorem dX9_decades_0 : decode cX9_decades 0 = .ok (.iload_n 1, 1) := by decide +kernel
theorem dX9_decades_1 : decode cX9_decades 1 = .ok (.iconst 0, 1) := by decide +kernel
theorem dX9_decades_2 : decode cX9_decades 2 = .ok (.bipush 60, 2) := by decide +kernel
theorem dX9_decades_4 : decode cX9_decades 4 = .ok (.invokestatic 54, 3) := by decide +kernel
theorem dX9_decades_7 : decode cX9_decades 7 = .ok (.ifCond .eq 22, 3) := by decide +kernel
theorem dX9_decades_10 : decode cX9_decades 10 = .ok (.iload_n 2, 1) := by decide +kernel
theorem dX9_decades_11 : decode cX9_decades 11 = .ok (.iconst 1, 1) := by decide +kernel
theorem dX9_decades_12 : decode cX9_decades 12 = .ok (.ldc 191, 2) := by decide +kernel
theorem dX9_decades_14 : decode cX9_decades 14 = .ok (.invokestatic 54, 3) := by decide +kernel
theorem dX9_decades_17 : decode cX9_decades 17 = .ok (.ifCond .eq 12, 3) := by decide +kernel
theorem dX9_decades_20 : decode cX9_decades 20 = .ok (.iload_n 3, 1) := by decide +kernel
theorem dX9_decades_21 : decode cX9_decades 21 = .ok (.iconst 0, 1) := by decide +kernel
theorem dX9_decades_22 : decode cX9_decades 22 = .ok (.iconst 1, 1) := by decide +kernel
theorem dX9_decades_23 : decode cX9_decades 23 = .ok (.invokestatic 54, 3) := by decide +kernel
theorem dX9_decades_26 : decode cX9_decades 26 = .ok (.ifCond .ne 5, 3) := by decide +kernel
theorem dX9_decades_29 : decode cX9_decades 29 = .ok (.iconst (-1), 1) := by decide +kernel
theorem dX9_decades_30 : decode cX9_decades 30 = .ok (.ireturn, 1) := by decide +kernel
theorem dX9_decades_31 : decode cX9_decades 31 = .ok (.aload_n 0, 1) := by decide +kernel
theorem dX9_decades_32 : decode cX9_decades 32 = .ok (.invokevirtual 110, 3) := by decide +kernel
theorem dX9_decades_35 : decode cX9_decades 35 = .ok (.ifCond .ne 6, 3) := by decide +kernel
theorem dX9_decades_38 : decode cX9_decades 38 = .ok (.bipush (-2), 2) := by decide +kernel
theorem dX9_decades_40 : decode cX9_decades 40 = .ok (.ireturn, 1) := by decide +kernel
theorem dX9_decades_41 : decode cX9_decades 41 = .ok (.aload_n 0, 1) := by decide +kernel
theorem dX9_decades_42 : decode cX9_decades 42 = .ok (.invokevirtual 173, 3) := by decide +kernel
theorem dX9_decades_45 : decode cX9_decades 45 = .ok (.iload_n 2, 1) := by decide +kernel
theorem dX9_decades_46 : decode cX9_decades 46 = .ok (.i2l, 1) := by decide +kernel
theorem dX9_decades_47 : decode cX9_decades 47 = .ok (.lstore 4, 2) := by decide +kernel
theorem dX9_decades_49 : decode cX9_decades 49 = .ok (.iconst 0, 1) := by decide +kernel
theorem dX9_decades_50 : decode cX9_decades 50 = .ok (.istore 6, 2) := by decide +kernel
theorem dX9_decades_52 : decode cX9_decades 52 = .ok (.iconst 0, 1) := by decide +kernel
theorem dX9_decades_53 : decode cX9_decades 53 = .ok (.istore 7, 2) := by decide +kernel
theorem dX9_decades_55 : decode cX9_decades 55 = .ok (.iload 7, 2) := by decide +kernel
theorem dX9_decades_57 : decode cX9_decades 57 = .ok (.iload_n 1, 1) := by decide +kernel
theorem dX9_decades_58 : decode cX9_decades 58 = .ok (.if_icmp .ge 104, 3) := by decide +kernel
theorem dX9_decades_61 : decode cX9_decades 61 = .ok (.lload 4, 2) := by decide +kernel
theorem dX9_decades_63 : decode cX9_decades 63 = .ok (.ldc2_w 192, 3) := by decide +kernel
theorem dX9_decades_66 : decode cX9_decades 66 = .ok (.lmul, 1) := by decide +kernel
theorem dX9_decades_67 : decode cX9_decades 67 = .ok (.ldc2_w 194, 3) := by decide +kernel
theorem dX9_decades_70 : decode cX9_decades 70 = .ok (.lrem, 1) := by decide +kernel
theorem dX9_decades_71 : decode cX9_decades 71 = .ok (.lstore 4, 2) := by decide +kernel
theorem dX9_decades_73 : decode cX9_decades 73 = .ok (.aload_n 0, 1) := by decide +kernel
theorem dX9_decades_74 : decode cX9_decades 74 = .ok (.getfield 29, 3) := by decide +kernel
theorem dX9_decades_77 : decode cX9_decades 77 = .ok (.lload 4, 2) := by decide +kernel
theorem dX9_decades_79 : decode cX9_decades 79 = .ok (.aload_n 0, 1) := by decide +kernel
theorem dX9_decades_80 : decode cX9_decades 80 = .ok (.getfield 29, 3) := by decide +kernel
theorem dX9_decades_83 : decode cX9_decades 83 = .ok (.iconst 2, 1) := by decide +kernel
theorem dX9_decades_84 : decode cX9_decades 84 = .ok (.iaload, 1) := by decide +kernel
theorem dX9_decades_85 : decode cX9_decades 85 = .ok (.i2l, 1) := by decide +kernel
theorem dX9_decades_86 : decode cX9_decades 86 = .ok (.lrem, 1) := by decide +kernel
theorem dX9_decades_87 : decode cX9_decades 87 = .ok (.l2i, 1) := by decide +kernel
theorem dX9_decades_88 : decode cX9_decades 88 = .ok (.lload 4, 2) := by decide +kernel
theorem dX9_decades_90 : decode cX9_decades 90 = .ok (.ldc2_w 196, 3) := by decide +kernel
theorem dX9_decades_93 : decode cX9_decades 93 = .ok (.ldiv, 1) := by decide +kernel
theorem dX9_decades_94 : decode cX9_decades 94 = .ok (.ldc2_w 198, 3) := by decide +kernel
theorem dX9_decades_97 : decode cX9_decades 97 = .ok (.lrem, 1) := by decide +kernel
theorem dX9_decades_98 : decode cX9_decades 98 = .ok (.l2i, 1) := by decide +kernel
theorem dX9_decades_99 : decode cX9_decades 99 = .ok (.invokestatic 169, 3) := by decide +kernel
theorem dX9_decades_102 : decode cX9_decades 102 = .ok (.aload_n 0, 1) := by decide +kernel
theorem dX9_decades_103 : decode cX9_decades 103 = .ok (.getfield 29, 3) := by decide +kernel
theorem dX9_decades_106 : decode cX9_decades 106 = .ok (.bipush 33, 2) := by decide +kernel
theorem dX9_decades_108 : decode cX9_decades 108 = .ok (.lload 4, 2) := by decide +kernel
theorem dX9_decades_110 : decode cX9_decades 110 = .ok (.ldc2_w 200, 3) := by decide +kernel
theorem dX9_decades_113 : decode cX9_decades 113 = .ok (.ldiv, 1) := by decide +kernel
theorem dX9_decades_114 : decode cX9_decades 114 = .ok (.aload_n 0, 1) := by decide +kernel
theorem dX9_decades_115 : decode cX9_decades 115 = .ok (.getfield 29, 3) := by decide +kernel
theorem dX9_decades_118 : decode cX9_decades 118 = .ok (.iconst 3, 1) := by decide +kernel
theorem dX9_decades_119 : decode cX9_decades 119 = .ok (.iaload, 1) := by decide +kernel
theorem dX9_decades_120 : decode cX9_decades 120 = .ok (.i2l, 1) := by decide +kernel
theorem dX9_decades_121 : decode cX9_decades 121 = .ok (.lrem, 1) := by decide +kernel
theorem dX9_decades_122 : decode cX9_decades 122 = .ok (.l2i, 1) := by decide +kernel
theorem dX9_decades_123 : decode cX9_decades 123 = .ok (.iadd, 1) := by decide +kernel
theorem dX9_decades_124 : decode cX9_decades 124 = .ok (.lload 4, 2) := by decide +kernel
theorem dX9_decades_126 : decode cX9_decades 126 = .ok (.ldc2_w 202, 3) := by decide +kernel
theorem dX9_decades_129 : decode cX9_decades 129 = .ok (.ldiv, 1) := by decide +kernel
theorem dX9_decades_130 : decode cX9_decades 130 = .ok (.aload_n 0, 1) := by decide +kernel
theorem dX9_decades_131 : decode cX9_decades 131 = .ok (.getfield 29, 3) := by decide +kernel
theorem dX9_decades_134 : decode cX9_decades 134 = .ok (.iconst 2, 1) := by decide +kernel
theorem dX9_decades_135 : decode cX9_decades 135 = .ok (.iaload, 1) := by decide +kernel
theorem dX9_decades_136 : decode cX9_decades 136 = .ok (.i2l, 1) := by decide +kernel
theorem dX9_decades_137 : decode cX9_decades 137 = .ok (.lrem, 1) := by decide +kernel
theorem dX9_decades_138 : decode cX9_decades 138 = .ok (.l2i, 1) := by decide +kernel
theorem dX9_decades_139 : decode cX9_decades 139 = .ok (.iastore, 1) := by decide +kernel
theorem dX9_decades_140 : decode cX9_decades 140 = .ok (.iload 6, 2) := by decide +kernel
theorem dX9_decades_142 : decode cX9_decades 142 = .ok (.aload_n 0, 1) := by decide +kernel
theorem dX9_decades_143 : decode cX9_decades 143 = .ok (.aload_n 0, 1) := by decide +kernel
theorem dX9_decades_144 : decode cX9_decades 144 = .ok (.getfield 29, 3) := by decide +kernel
theorem dX9_decades_147 : decode cX9_decades 147 = .ok (.invokevirtual 166, 3) := by decide +kernel
theorem dX9_decades_150 : decode cX9_decades 150 = .ok (.invokestatic 76, 3) := by decide +kernel
theorem dX9_decades_153 : decode cX9_decades 153 = .ok (.iadd, 1) := by decide +kernel
theorem dX9_decades_154 : decode cX9_decades 154 = .ok (.istore 6, 2) := by decide +kernel
theorem dX9_decades_156 : decode cX9_decades 156 = .ok (.iinc 7 1, 3) := by decide +kernel
theorem dX9_decades_159 : decode cX9_decades 159 = .ok (.goto (-104), 3) := by decide +kernel
theorem dX9_decades_162 : decode cX9_decades 162 = .ok (.iload_n 3, 1) := by decide +kernel
theorem dX9_decades_163 : decode cX9_decades 163 = .ok (.ifCond .ne 8, 3) := by decide +kernel
theorem dX9_decades_166 : decode cX9_decades 166 = .ok (.iload 6, 2) := by decide +kernel
theorem dX9_decades_168 : decode cX9_decades 168 = .ok (.goto 10, 3) := by decide +kernel
theorem dX9_decades_171 : decode cX9_decades 171 = .ok (.aload_n 0, 1) := by decide +kernel
theorem dX9_decades_172 : decode cX9_decades 172 = .ok (.getfield 29, 3) := by decide +kernel
theorem dX9_decades_175 : decode cX9_decades 175 = .ok (.invokestatic 176, 3) := by decide +kernel
theorem dX9_decades_178 : decode cX9_decades 178 = .ok (.ireturn, 1) := by decide +kernel
def R_X9_decades (a1 : Int32) (a2 : Int32) (a3 : Int32) (σ : kS) (x : Int32) (τ : kS) : Prop := Run SM jX9_decades [(.ref 0), (.int a1), (.int a2), (.int a3)] σ (some (.int x)) τ
def E_X9_decades_55 (l1 : Int32) (l3 : Int32) (l4 : Int64) (l6 : Int32) (l7 : Int32) (σ : kS) (x : Int32) (τ : kS) : Prop := Ex SM jX9_decades 55 [some (.ref 0), some (.int l1), none, some (.int l3), some (.long l4), none, some (.int l6), some (.int l7)] [] σ (some (.int x)) τ
set_option maxRecDepth 20000 in
theorem t_X9_decades {a1 : Int32} {a2 : Int32} {a3 : Int32} {σ : kS} {x : Int32} {τ : kS}  (h : (¬ (iv a1 (0 : Int32) (60 : Int32)) → x = (-1 : Int32) ∧ τ = σ) ∧ ((iv a1 (0 : Int32) (60 : Int32)) → (¬ (iv a2 (1 : Int32) (999999 : Int32)) → x = (-1 : Int32) ∧ τ = σ) ∧ ((iv a2 (1 : Int32) (999999 : Int32)) → ((iv a3 (0 : Int32) (1 : Int32)) → ((0 < (σ.1 5 1)) → ∃ s5 : kS, R_X9_begin  σ s5 ∧ (E_X9_decades_55 a1 a3 a2.toInt64 (0 : Int32) (0 : Int32) s5 x τ)) ∧ (¬ (0 < (σ.1 5 1)) → x = (-2 : Int32) ∧ τ = σ)) ∧ (¬ (iv a3 (0 : Int32) (1 : Int32)) → x = (-1 : Int32) ∧ τ = σ)))) : R_X9_decades a1 a2 a3 σ x τ := by
  refine x_run [some (.ref 0), some (.int a1), some (.int a2), some (.int a3), none, none, none, none] (by decide +kernel) rfl (Nat.le_of_ble_eq_true rfl) ?_
  refine x_iload_n (pc := 0) 1 dX9_decades_0 rfl rfl ?_
  refine x_iconst (pc := 1) (0 : Int32) dX9_decades_1 (by decide +kernel) ?_
  refine x_bipush (pc := 2) (60 : Int32) dX9_decades_2 (by decide +kernel) ?_
  refine x_callS (pc := 4) [(.int a1), (.int (0 : Int32)), (.int (60 : Int32))] [] dX9_decades_4 ⟨⟨hX9_in.1, hX9_in.2.1, hX9_in.2.2, by decide⟩, mX9_54, sX9_in⟩ rfl rfl (Nat.le_of_ble_eq_true rfl) (i_X9_in) ?_
  refine x_bif_eq (pc := 7) 29 dX9_decades_7 (by decide) (fun c1 => ?_) (fun c1 => ?_)
  · replace h := h.1 c1
    refine x_iconst (pc := 29) (-1 : Int32) dX9_decades_29 (by decide +kernel) ?_
    exact x_ireturn2 (pc := 30) dX9_decades_30 rfl h.1 h.2
  · replace h := h.2 c1
    refine x_iload_n (pc := 10) 2 dX9_decades_10 rfl rfl ?_
    refine x_iconst (pc := 11) (1 : Int32) dX9_decades_11 (by decide +kernel) ?_
    refine x_ldc (pc := 12) dX9_decades_12 cX9_191 ?_
    refine x_callS (pc := 14) [(.int a2), (.int (1 : Int32)), (.int (999999 : Int32))] [] dX9_decades_14 ⟨⟨hX9_in.1, hX9_in.2.1, hX9_in.2.2, by decide⟩, mX9_54, sX9_in⟩ rfl rfl (Nat.le_of_ble_eq_true rfl) (i_X9_in) ?_
    refine x_bif_eq (pc := 17) 29 dX9_decades_17 (by decide) (fun c2 => ?_) (fun c2 => ?_)
    · replace h := h.1 c2
      refine x_iconst (pc := 29) (-1 : Int32) dX9_decades_29 (by decide +kernel) ?_
      exact x_ireturn2 (pc := 30) dX9_decades_30 rfl h.1 h.2
    · replace h := h.2 c2
      refine x_iload_n (pc := 20) 3 dX9_decades_20 rfl rfl ?_
      refine x_iconst (pc := 21) (0 : Int32) dX9_decades_21 (by decide +kernel) ?_
      refine x_iconst (pc := 22) (1 : Int32) dX9_decades_22 (by decide +kernel) ?_
      refine x_callS (pc := 23) [(.int a3), (.int (0 : Int32)), (.int (1 : Int32))] [] dX9_decades_23 ⟨⟨hX9_in.1, hX9_in.2.1, hX9_in.2.2, by decide⟩, mX9_54, sX9_in⟩ rfl rfl (Nat.le_of_ble_eq_true rfl) (i_X9_in) ?_
      refine x_bif_ne (pc := 26) 31 dX9_decades_26 (by decide) (fun c3 => ?_) (fun c3 => ?_)
      · replace h := h.1 c3
        refine x_aload_n (pc := 31) 0 dX9_decades_31 rfl rfl ?_
        refine x_callV (pc := 32) [] [] dX9_decades_32 ⟨⟨hX9_isThere.1, hX9_isThere.2.1, hX9_isThere.2.2, by decide⟩, mX9_110, vX9_isThere.1, vX9_isThere.2⟩ (ci := 9) rfl rfl rfl rfl (Nat.le_of_ble_eq_true rfl) (i_X9_isThere) ?_
        refine x_bif_ne (pc := 35) 41 dX9_decades_35 (by decide) (fun c4 => ?_) (fun c4 => ?_)
        · replace h := h.1 c4
          refine x_aload_n (pc := 41) 0 dX9_decades_41 rfl rfl ?_
          obtain ⟨s5, hr, h⟩ := h
          refine x_callV (pc := 42) [] [] dX9_decades_42 ⟨⟨hX9_begin.1, hX9_begin.2.1, hX9_begin.2.2, by decide⟩, mX9_173, vX9_begin.1, vX9_begin.2⟩ (ci := 9) rfl rfl rfl rfl (Nat.le_of_ble_eq_true rfl) hr ?_
          refine x_iload_n (pc := 45) 2 dX9_decades_45 rfl rfl ?_
          refine x_i2l (pc := 46) dX9_decades_46 ?_
          refine x_lstore (pc := 47) dX9_decades_47 (by decide) rfl ?_
          refine x_iconst (pc := 49) (0 : Int32) dX9_decades_49 (by decide +kernel) ?_
          refine x_istore (pc := 50) dX9_decades_50 (by decide) rfl ?_
          refine x_iconst (pc := 52) (0 : Int32) dX9_decades_52 (by decide +kernel) ?_
          refine x_istore (pc := 53) dX9_decades_53 (by decide) rfl ?_
          exact x_mask [true, true, false, true, true, false, true, true] h
        · replace h := h.2 c4
          refine x_bipush (pc := 38) (-2 : Int32) dX9_decades_38 (by decide +kernel) ?_
          exact x_ireturn2 (pc := 40) dX9_decades_40 rfl h.1 h.2
      · replace h := h.2 c3
        refine x_iconst (pc := 29) (-1 : Int32) dX9_decades_29 (by decide +kernel) ?_
        exact x_ireturn2 (pc := 30) dX9_decades_30 rfl h.1 h.2
set_option maxRecDepth 20000 in
theorem t_X9_decades_55 {l1 : Int32} {l3 : Int32} {l4 : Int64} {l6 : Int32} {l7 : Int32} {σ : kS} {x : Int32} {τ : kS}  (h : (l1 ≤ l7 → (¬ l3 = 0 → ∃ (x4 : Int32) (s3 : kS), R_X9_tiredOf 7 σ x4 s3 ∧ (x = x4 ∧ τ = s3)) ∧ (l3 = 0 → x = l6 ∧ τ = σ)) ∧ (¬ l1 ≤ l7 → ¬ (σ.1 7 2).toInt64 = 0 ∧ (∃ s6 : kS, R_X9_turn 7 (((l4 * (16807 : Int64)) - (l4 * (16807 : Int64)) / (2147483647 : Int64) * (2147483647 : Int64)) - ((l4 * (16807 : Int64)) - (l4 * (16807 : Int64)) / (2147483647 : Int64) * (2147483647 : Int64)) / (σ.1 7 2).toInt64 * (σ.1 7 2).toInt64).toInt32 ((((l4 * (16807 : Int64)) - (l4 * (16807 : Int64)) / (2147483647 : Int64) * (2147483647 : Int64)) / (16 : Int64)) - (((l4 * (16807 : Int64)) - (l4 * (16807 : Int64)) / (2147483647 : Int64) * (2147483647 : Int64)) / (16 : Int64)) / (12 : Int64) * (12 : Int64)).toInt32 σ s6 ∧ (¬ (s6.1 7 3).toInt64 = 0 ∧ (¬ (s6.1 7 2).toInt64 = 0 ∧ (vp_in ((33 : Int32) + ((((l4 * (16807 : Int64)) - (l4 * (16807 : Int64)) / (2147483647 : Int64) * (2147483647 : Int64)) / (256 : Int64)) - (((l4 * (16807 : Int64)) - (l4 * (16807 : Int64)) / (2147483647 : Int64) * (2147483647 : Int64)) / (256 : Int64)) / (s6.1 7 3).toInt64 * (s6.1 7 3).toInt64).toInt32) 38 ∧ (∃ (x11 : Int32) (s10 : kS), R_X9_hourIn 7 (k_si s6 7 ((33 : Int32) + ((((l4 * (16807 : Int64)) - (l4 * (16807 : Int64)) / (2147483647 : Int64) * (2147483647 : Int64)) / (256 : Int64)) - (((l4 * (16807 : Int64)) - (l4 * (16807 : Int64)) / (2147483647 : Int64) * (2147483647 : Int64)) / (256 : Int64)) / (s6.1 7 3).toInt64 * (s6.1 7 3).toInt64).toInt32).toNatClampNeg ((((l4 * (16807 : Int64)) - (l4 * (16807 : Int64)) / (2147483647 : Int64) * (2147483647 : Int64)) / (4096 : Int64)) - (((l4 * (16807 : Int64)) - (l4 * (16807 : Int64)) / (2147483647 : Int64) * (2147483647 : Int64)) / (4096 : Int64)) / (s6.1 7 2).toInt64 * (s6.1 7 2).toInt64).toInt32) x11 s10 ∧ (∃ (x13 : Int32) (s12 : kS), R_X9_bits x11 s10 x13 s12 ∧ (E_X9_decades_55 l1 l3 ((l4 * (16807 : Int64)) - (l4 * (16807 : Int64)) / (2147483647 : Int64) * (2147483647 : Int64)) (l6 + x13) (l7 + (1 : Int32)) s12 x τ))))))))) : E_X9_decades_55 l1 l3 l4 l6 l7 σ x τ := by
  unfold E_X9_decades_55
  refine x_iload (pc := 55) dX9_decades_55 rfl ?_
  refine x_iload_n (pc := 57) 1 dX9_decades_57 rfl rfl ?_
  refine x_icmp_ge (pc := 58) 162 dX9_decades_58 (by decide) (fun c1 => ?_) (fun c1 => ?_)
  · replace h := h.1 c1
    refine x_iload_n (pc := 162) 3 dX9_decades_162 rfl rfl ?_
    refine x_if_ne (pc := 163) 171 dX9_decades_163 (by decide) (fun c2 => ?_) (fun c2 => ?_)
    · replace h := h.1 c2
      refine x_aload_n (pc := 171) 0 dX9_decades_171 rfl rfl ?_
      refine x_getR (pc := 172) dX9_decades_172 fX9_29 rfl rfl ?_
      obtain ⟨x4, s3, hr, h⟩ := h
      refine x_callS (pc := 175) [(.ref 7)] [] dX9_decades_175 ⟨⟨hX9_tiredOf.1, hX9_tiredOf.2.1, hX9_tiredOf.2.2, by decide⟩, mX9_176, sX9_tiredOf⟩ rfl rfl (Nat.le_of_ble_eq_true rfl) hr ?_
      exact x_ireturn2 (pc := 178) dX9_decades_178 rfl h.1 h.2
    · replace h := h.2 c2
      refine x_iload (pc := 166) dX9_decades_166 rfl ?_
      refine x_goto (pc := 168) 178 dX9_decades_168 (by decide) ?_
      exact x_ireturn2 (pc := 178) dX9_decades_178 rfl h.1 h.2
  · replace h := h.2 c1
    refine x_lload (pc := 61) dX9_decades_61 rfl ?_
    refine x_ldc2 (pc := 63) dX9_decades_63 clX9_192 ?_
    refine x_lmul (pc := 66) dX9_decades_66 ?_
    refine x_ldc2 (pc := 67) dX9_decades_67 clX9_194 ?_
    refine x_lrem (pc := 70) dX9_decades_70 (by decide) ?_
    refine x_lstore (pc := 71) dX9_decades_71 (by decide) rfl ?_
    refine x_aload_n (pc := 73) 0 dX9_decades_73 rfl rfl ?_
    refine x_getR (pc := 74) dX9_decades_74 fX9_29 rfl rfl ?_
    refine x_lload (pc := 77) dX9_decades_77 rfl ?_
    refine x_aload_n (pc := 79) 0 dX9_decades_79 rfl rfl ?_
    refine x_getR (pc := 80) dX9_decades_80 fX9_29 rfl rfl ?_
    refine x_iconst (pc := 83) (2 : Int32) dX9_decades_83 (by decide +kernel) ?_
    refine x_ialoadK (pc := 84) (n := 38) 2 dX9_decades_84 rfl (by decide) (by decide +kernel) ?_
    refine x_i2l (pc := 85) dX9_decades_85 ?_
    obtain ⟨g5, h⟩ := h
    refine x_lrem (pc := 86) dX9_decades_86 g5 ?_
    refine x_l2i (pc := 87) dX9_decades_87 ?_
    refine x_lload (pc := 88) dX9_decades_88 rfl ?_
    refine x_ldc2 (pc := 90) dX9_decades_90 clX9_196 ?_
    refine x_ldiv (pc := 93) dX9_decades_93 (by decide) ?_
    refine x_ldc2 (pc := 94) dX9_decades_94 clX9_198 ?_
    refine x_lrem (pc := 97) dX9_decades_97 (by decide) ?_
    refine x_l2i (pc := 98) dX9_decades_98 ?_
    obtain ⟨s6, hr, h⟩ := h
    refine x_callS (pc := 99) [(.ref 7), (.int (((l4 * (16807 : Int64)) - (l4 * (16807 : Int64)) / (2147483647 : Int64) * (2147483647 : Int64)) - ((l4 * (16807 : Int64)) - (l4 * (16807 : Int64)) / (2147483647 : Int64) * (2147483647 : Int64)) / (σ.1 7 2).toInt64 * (σ.1 7 2).toInt64).toInt32), (.int ((((l4 * (16807 : Int64)) - (l4 * (16807 : Int64)) / (2147483647 : Int64) * (2147483647 : Int64)) / (16 : Int64)) - (((l4 * (16807 : Int64)) - (l4 * (16807 : Int64)) / (2147483647 : Int64) * (2147483647 : Int64)) / (16 : Int64)) / (12 : Int64) * (12 : Int64)).toInt32)] [] dX9_decades_99 ⟨⟨hX9_turn.1, hX9_turn.2.1, hX9_turn.2.2, by decide⟩, mX9_169, sX9_turn⟩ rfl rfl (Nat.le_of_ble_eq_true rfl) hr ?_
    refine x_aload_n (pc := 102) 0 dX9_decades_102 rfl rfl ?_
    refine x_getR (pc := 103) dX9_decades_103 fX9_29 rfl rfl ?_
    refine x_bipush (pc := 106) (33 : Int32) dX9_decades_106 (by decide +kernel) ?_
    refine x_lload (pc := 108) dX9_decades_108 rfl ?_
    refine x_ldc2 (pc := 110) dX9_decades_110 clX9_200 ?_
    refine x_ldiv (pc := 113) dX9_decades_113 (by decide) ?_
    refine x_aload_n (pc := 114) 0 dX9_decades_114 rfl rfl ?_
    refine x_getR (pc := 115) dX9_decades_115 fX9_29 rfl rfl ?_
    refine x_iconst (pc := 118) (3 : Int32) dX9_decades_118 (by decide +kernel) ?_
    refine x_ialoadK (pc := 119) (n := 38) 3 dX9_decades_119 rfl (by decide) (by decide +kernel) ?_
    refine x_i2l (pc := 120) dX9_decades_120 ?_
    obtain ⟨g7, h⟩ := h
    refine x_lrem (pc := 121) dX9_decades_121 g7 ?_
    refine x_l2i (pc := 122) dX9_decades_122 ?_
    refine x_iadd (pc := 123) dX9_decades_123 ?_
    refine x_lload (pc := 124) dX9_decades_124 rfl ?_
    refine x_ldc2 (pc := 126) dX9_decades_126 clX9_202 ?_
    refine x_ldiv (pc := 129) dX9_decades_129 (by decide) ?_
    refine x_aload_n (pc := 130) 0 dX9_decades_130 rfl rfl ?_
    refine x_getR (pc := 131) dX9_decades_131 fX9_29 rfl rfl ?_
    refine x_iconst (pc := 134) (2 : Int32) dX9_decades_134 (by decide +kernel) ?_
    refine x_ialoadK (pc := 135) (n := 38) 2 dX9_decades_135 rfl (by decide) (by decide +kernel) ?_
    refine x_i2l (pc := 136) dX9_decades_136 ?_
    obtain ⟨g8, h⟩ := h
    refine x_lrem (pc := 137) dX9_decades_137 g8 ?_
    refine x_l2i (pc := 138) dX9_decades_138 ?_
    obtain ⟨g9, h⟩ := h
    refine x_iastore (pc := 139) (n := 38) dX9_decades_139 rfl g9 ?_
    refine x_iload (pc := 140) dX9_decades_140 rfl ?_
    refine x_aload_n (pc := 142) 0 dX9_decades_142 rfl rfl ?_
    refine x_aload_n (pc := 143) 0 dX9_decades_143 rfl rfl ?_
    refine x_getR (pc := 144) dX9_decades_144 fX9_29 rfl rfl ?_
    obtain ⟨x11, s10, hr, h⟩ := h
    refine x_callV (pc := 147) [(.ref 7)] [(.int l6)] dX9_decades_147 ⟨⟨hX9_hourIn.1, hX9_hourIn.2.1, hX9_hourIn.2.2, by decide⟩, mX9_166, vX9_hourIn.1, vX9_hourIn.2⟩ (ci := 9) rfl rfl rfl rfl (Nat.le_of_ble_eq_true rfl) hr ?_
    obtain ⟨x13, s12, hr, h⟩ := h
    refine x_callS (pc := 150) [(.int x11)] [(.int l6)] dX9_decades_150 ⟨⟨hX9_bits.1, hX9_bits.2.1, hX9_bits.2.2, by decide⟩, mX9_76, sX9_bits⟩ rfl rfl (Nat.le_of_ble_eq_true rfl) hr ?_
    refine x_iadd (pc := 153) dX9_decades_153 ?_
    refine x_istore (pc := 154) dX9_decades_154 (by decide) rfl ?_
    refine x_iinc (pc := 156) (1 : Int32) dX9_decades_156 (by decide) rfl rfl (by decide +kernel) ?_
    refine x_goto (pc := 159) 55 dX9_decades_159 (by decide) ?_
    exact h
theorem dX9_badRow_0 : decode cX9_badRow 0 = .ok (.aload_n 0, 1) := by decide +kernel
theorem dX9_badRow_1 : decode cX9_badRow 1 = .ok (.getfield 7, 3) := by decide +kernel
theorem dX9_badRow_4 : decode cX9_badRow 4 = .ok (.iload_n 1, 1) := by decide +kernel
theorem dX9_badRow_5 : decode cX9_badRow 5 = .ok (.iaload, 1) := by decide +kernel
theorem dX9_badRow_6 : decode cX9_badRow 6 = .ok (.ifCond .ge 8, 3) := by decide +kernel
theorem dX9_badRow_9 : decode cX9_badRow 9 = .ok (.bipush (-11), 2) := by decide +kernel
theorem dX9_badRow_11 : decode cX9_badRow 11 = .ok (.goto 39, 3) := by decide +kernel
theorem dX9_badRow_14 : decode cX9_badRow 14 = .ok (.aload_n 0, 1) := by decide +kernel
theorem dX9_badRow_15 : decode cX9_badRow 15 = .ok (.getfield 7, 3) := by decide +kernel
theorem dX9_badRow_18 : decode cX9_badRow 18 = .ok (.iload_n 1, 1) := by decide +kernel
theorem dX9_badRow_19 : decode cX9_badRow 19 = .ok (.iaload, 1) := by decide +kernel
theorem dX9_badRow_20 : decode cX9_badRow 20 = .ok (.iload_n 2, 1) := by decide +kernel
theorem dX9_badRow_21 : decode cX9_badRow 21 = .ok (.if_icmp .eq 8, 3) := by decide +kernel
theorem dX9_badRow_24 : decode cX9_badRow 24 = .ok (.bipush (-12), 2) := by decide +kernel
theorem dX9_badRow_26 : decode cX9_badRow 26 = .ok (.goto 24, 3) := by decide +kernel
theorem dX9_badRow_29 : decode cX9_badRow 29 = .ok (.iload_n 3, 1) := by decide +kernel
theorem dX9_badRow_30 : decode cX9_badRow 30 = .ok (.iload 4, 2) := by decide +kernel
theorem dX9_badRow_32 : decode cX9_badRow 32 = .ok (.aload_n 0, 1) := by decide +kernel
theorem dX9_badRow_33 : decode cX9_badRow 33 = .ok (.getfield 13, 3) := by decide +kernel
theorem dX9_badRow_36 : decode cX9_badRow 36 = .ok (.iload_n 1, 1) := by decide +kernel
theorem dX9_badRow_37 : decode cX9_badRow 37 = .ok (.iaload, 1) := by decide +kernel
theorem dX9_badRow_38 : decode cX9_badRow 38 = .ok (.invokestatic 204, 3) := by decide +kernel
theorem dX9_badRow_41 : decode cX9_badRow 41 = .ok (.ifCond .eq 7, 3) := by decide +kernel
theorem dX9_badRow_44 : decode cX9_badRow 44 = .ok (.iconst 0, 1) := by decide +kernel
theorem dX9_badRow_45 : decode cX9_badRow 45 = .ok (.goto 5, 3) := by decide +kernel
theorem dX9_badRow_48 : decode cX9_badRow 48 = .ok (.bipush (-13), 2) := by decide +kernel
theorem dX9_badRow_50 : decode cX9_badRow 50 = .ok (.ireturn, 1) := by decide +kernel
def R_X9_badRow (a1 : Int32) (a2 : Int32) (a3 : Int32) (a4 : Int32) (σ : kS) (x : Int32) (τ : kS) : Prop := Run SM jX9_badRow [(.ref 0), (.int a1), (.int a2), (.int a3), (.int a4)] σ (some (.int x)) τ
set_option maxRecDepth 20000 in
theorem t_X9_badRow {a1 : Int32} {a2 : Int32} {a3 : Int32} {a4 : Int32} {σ : kS} {x : Int32} {τ : kS}  (h : vp_in a1 4 ∧ ((0 ≤ (σ.1 1 a1.toNatClampNeg) → vp_in a1 4 ∧ (((σ.1 1 a1.toNatClampNeg) = a2 → vp_in a1 4 ∧ ((¬ (ip a3 a4 (σ.1 2 a1.toNatClampNeg)) → x = (-13 : Int32) ∧ τ = σ) ∧ ((ip a3 a4 (σ.1 2 a1.toNatClampNeg)) → x = (0 : Int32) ∧ τ = σ))) ∧ (¬ (σ.1 1 a1.toNatClampNeg) = a2 → x = (-12 : Int32) ∧ τ = σ))) ∧ (¬ 0 ≤ (σ.1 1 a1.toNatClampNeg) → x = (-11 : Int32) ∧ τ = σ))) : R_X9_badRow a1 a2 a3 a4 σ x τ := by
  refine x_run [some (.ref 0), some (.int a1), some (.int a2), some (.int a3), some (.int a4)] (by decide +kernel) rfl (Nat.le_of_ble_eq_true rfl) ?_
  refine x_aload_n (pc := 0) 0 dX9_badRow_0 rfl rfl ?_
  refine x_getR (pc := 1) dX9_badRow_1 fX9_7 rfl rfl ?_
  refine x_iload_n (pc := 4) 1 dX9_badRow_4 rfl rfl ?_
  obtain ⟨g1, h⟩ := h
  refine x_iaload (pc := 5) (n := 4) dX9_badRow_5 rfl g1 ?_
  refine x_if_ge (pc := 6) 14 dX9_badRow_6 (by decide) (fun c2 => ?_) (fun c2 => ?_)
  · replace h := h.1 c2
    refine x_aload_n (pc := 14) 0 dX9_badRow_14 rfl rfl ?_
    refine x_getR (pc := 15) dX9_badRow_15 fX9_7 rfl rfl ?_
    refine x_iload_n (pc := 18) 1 dX9_badRow_18 rfl rfl ?_
    obtain ⟨g3, h⟩ := h
    refine x_iaload (pc := 19) (n := 4) dX9_badRow_19 rfl g3 ?_
    refine x_iload_n (pc := 20) 2 dX9_badRow_20 rfl rfl ?_
    refine x_icmp_eq (pc := 21) 29 dX9_badRow_21 (by decide) (fun c4 => ?_) (fun c4 => ?_)
    · replace h := h.1 c4
      refine x_iload_n (pc := 29) 3 dX9_badRow_29 rfl rfl ?_
      refine x_iload (pc := 30) dX9_badRow_30 rfl ?_
      refine x_aload_n (pc := 32) 0 dX9_badRow_32 rfl rfl ?_
      refine x_getR (pc := 33) dX9_badRow_33 fX9_13 rfl rfl ?_
      refine x_iload_n (pc := 36) 1 dX9_badRow_36 rfl rfl ?_
      obtain ⟨g5, h⟩ := h
      refine x_iaload (pc := 37) (n := 4) dX9_badRow_37 rfl g5 ?_
      refine x_callS (pc := 38) [(.int a3), (.int a4), (.int (σ.1 2 a1.toNatClampNeg))] [] dX9_badRow_38 ⟨⟨hX9_isPart.1, hX9_isPart.2.1, hX9_isPart.2.2, by decide⟩, mX9_204, sX9_isPart⟩ rfl rfl (Nat.le_of_ble_eq_true rfl) (i_X9_isPart) ?_
      refine x_bif_eq (pc := 41) 48 dX9_badRow_41 (by decide) (fun c6 => ?_) (fun c6 => ?_)
      · replace h := h.1 c6
        refine x_bipush (pc := 48) (-13 : Int32) dX9_badRow_48 (by decide +kernel) ?_
        exact x_ireturn2 (pc := 50) dX9_badRow_50 rfl h.1 h.2
      · replace h := h.2 c6
        refine x_iconst (pc := 44) (0 : Int32) dX9_badRow_44 (by decide +kernel) ?_
        refine x_goto (pc := 45) 50 dX9_badRow_45 (by decide) ?_
        exact x_ireturn2 (pc := 50) dX9_badRow_50 rfl h.1 h.2
    · replace h := h.2 c4
      refine x_bipush (pc := 24) (-12 : Int32) dX9_badRow_24 (by decide +kernel) ?_
      refine x_goto (pc := 26) 50 dX9_badRow_26 (by decide) ?_
      exact x_ireturn2 (pc := 50) dX9_badRow_50 rfl h.1 h.2
  · replace h := h.2 c2
    refine x_bipush (pc := 9) (-11 : Int32) dX9_badRow_9 (by decide +kernel) ?_
    refine x_goto (pc := 11) 50 dX9_badRow_11 (by decide) ?_
    exact x_ireturn2 (pc := 50) dX9_badRow_50 rfl h.1 h.2
theorem dX9_sheet_0 : decode cX9_sheet 0 = .ok (.iload_n 1, 1) := by decide +kernel
theorem dX9_sheet_1 : decode cX9_sheet 1 = .ok (.invokestatic 207, 3) := by decide +kernel
theorem dX9_sheet_4 : decode cX9_sheet 4 = .ok (.ifCond .eq 18, 3) := by decide +kernel
theorem dX9_sheet_7 : decode cX9_sheet 7 = .ok (.iload_n 2, 1) := by decide +kernel
theorem dX9_sheet_8 : decode cX9_sheet 8 = .ok (.iconst 0, 1) := by decide +kernel
theorem dX9_sheet_9 : decode cX9_sheet 9 = .ok (.iconst 3, 1) := by decide +kernel
theorem dX9_sheet_10 : decode cX9_sheet 10 = .ok (.invokestatic 54, 3) := by decide +kernel
theorem dX9_sheet_13 : decode cX9_sheet 13 = .ok (.ifCond .eq 9, 3) := by decide +kernel
theorem dX9_sheet_16 : decode cX9_sheet 16 = .ok (.iload_n 3, 1) := by decide +kernel
theorem dX9_sheet_17 : decode cX9_sheet 17 = .ok (.bipush 24, 2) := by decide +kernel
theorem dX9_sheet_19 : decode cX9_sheet 19 = .ok (.if_icmp .le 5, 3) := by decide +kernel
theorem dX9_sheet_22 : decode cX9_sheet 22 = .ok (.iconst (-1), 1) := by decide +kernel
theorem dX9_sheet_23 : decode cX9_sheet 23 = .ok (.ireturn, 1) := by decide +kernel
theorem dX9_sheet_24 : decode cX9_sheet 24 = .ok (.iload_n 3, 1) := by decide +kernel
theorem dX9_sheet_25 : decode cX9_sheet 25 = .ok (.ifCond .ge 6, 3) := by decide +kernel
theorem dX9_sheet_28 : decode cX9_sheet 28 = .ok (.bipush (-14), 2) := by decide +kernel
theorem dX9_sheet_30 : decode cX9_sheet 30 = .ok (.ireturn, 1) := by decide +kernel
theorem dX9_sheet_31 : decode cX9_sheet 31 = .ok (.aload_n 0, 1) := by decide +kernel
theorem dX9_sheet_32 : decode cX9_sheet 32 = .ok (.getfield 7, 3) := by decide +kernel
theorem dX9_sheet_35 : decode cX9_sheet 35 = .ok (.iload_n 1, 1) := by decide +kernel
theorem dX9_sheet_36 : decode cX9_sheet 36 = .ok (.iload_n 2, 1) := by decide +kernel
theorem dX9_sheet_37 : decode cX9_sheet 37 = .ok (.iastore, 1) := by decide +kernel
theorem dX9_sheet_38 : decode cX9_sheet 38 = .ok (.aload_n 0, 1) := by decide +kernel
theorem dX9_sheet_39 : decode cX9_sheet 39 = .ok (.getfield 13, 3) := by decide +kernel
theorem dX9_sheet_42 : decode cX9_sheet 42 = .ok (.iload_n 1, 1) := by decide +kernel
theorem dX9_sheet_43 : decode cX9_sheet 43 = .ok (.iload_n 3, 1) := by decide +kernel
theorem dX9_sheet_44 : decode cX9_sheet 44 = .ok (.iastore, 1) := by decide +kernel
theorem dX9_sheet_45 : decode cX9_sheet 45 = .ok (.iconst 0, 1) := by decide +kernel
theorem dX9_sheet_46 : decode cX9_sheet 46 = .ok (.istore 4, 2) := by decide +kernel
theorem dX9_sheet_48 : decode cX9_sheet 48 = .ok (.iload 4, 2) := by decide +kernel
theorem dX9_sheet_50 : decode cX9_sheet 50 = .ok (.bipush 24, 2) := by decide +kernel
theorem dX9_sheet_52 : decode cX9_sheet 52 = .ok (.if_icmp .ge 22, 3) := by decide +kernel
theorem dX9_sheet_55 : decode cX9_sheet 55 = .ok (.aload_n 0, 1) := by decide +kernel
theorem dX9_sheet_56 : decode cX9_sheet 56 = .ok (.getfield 16, 3) := by decide +kernel
theorem dX9_sheet_59 : decode cX9_sheet 59 = .ok (.bipush 24, 2) := by decide +kernel
theorem dX9_sheet_61 : decode cX9_sheet 61 = .ok (.iload_n 1, 1) := by decide +kernel
theorem dX9_sheet_62 : decode cX9_sheet 62 = .ok (.imul, 1) := by decide +kernel
theorem dX9_sheet_63 : decode cX9_sheet 63 = .ok (.iload 4, 2) := by decide +kernel
theorem dX9_sheet_65 : decode cX9_sheet 65 = .ok (.iadd, 1) := by decide +kernel
theorem dX9_sheet_66 : decode cX9_sheet 66 = .ok (.lconst 0, 1) := by decide +kernel
theorem dX9_sheet_67 : decode cX9_sheet 67 = .ok (.lastore, 1) := by decide +kernel
theorem dX9_sheet_68 : decode cX9_sheet 68 = .ok (.iinc 4 1, 3) := by decide +kernel
theorem dX9_sheet_71 : decode cX9_sheet 71 = .ok (.goto (-23), 3) := by decide +kernel
theorem dX9_sheet_74 : decode cX9_sheet 74 = .ok (.iload_n 3, 1) := by decide +kernel
theorem dX9_sheet_75 : decode cX9_sheet 75 = .ok (.ireturn, 1) := by decide +kernel
def R_X9_sheet (a1 : Int32) (a2 : Int32) (a3 : Int32) (σ : kS) (x : Int32) (τ : kS) : Prop := Run SM jX9_sheet [(.ref 0), (.int a1), (.int a2), (.int a3)] σ (some (.int x)) τ
def E_X9_sheet_48 (l1 : Int32) (l3 : Int32) (l4 : Int32) (σ : kS) (x : Int32) (τ : kS) : Prop := Ex SM jX9_sheet 48 [some (.ref 0), some (.int l1), none, some (.int l3), some (.int l4)] [] σ (some (.int x)) τ
set_option maxRecDepth 20000 in
theorem t_X9_sheet {a1 : Int32} {a2 : Int32} {a3 : Int32} {σ : kS} {x : Int32} {τ : kS}  (h : (¬ (iv a1 0 3) → x = (-1 : Int32) ∧ τ = σ) ∧ ((iv a1 0 3) → (¬ (iv a2 (0 : Int32) (3 : Int32)) → x = (-1 : Int32) ∧ τ = σ) ∧ ((iv a2 (0 : Int32) (3 : Int32)) → (a3 ≤ (24 : Int32) → (0 ≤ a3 → vp_in a1 4 ∧ (vp_in a1 4 ∧ (E_X9_sheet_48 a1 a3 (0 : Int32) (k_si (k_si σ 1 a1.toNatClampNeg a2) 2 a1.toNatClampNeg a3) x τ))) ∧ (¬ 0 ≤ a3 → x = (-14 : Int32) ∧ τ = σ)) ∧ (¬ a3 ≤ (24 : Int32) → x = (-1 : Int32) ∧ τ = σ)))) : R_X9_sheet a1 a2 a3 σ x τ := by
  refine x_run [some (.ref 0), some (.int a1), some (.int a2), some (.int a3), none] (by decide +kernel) rfl (Nat.le_of_ble_eq_true rfl) ?_
  refine x_iload_n (pc := 0) 1 dX9_sheet_0 rfl rfl ?_
  refine x_callS (pc := 1) [(.int a1)] [] dX9_sheet_1 ⟨⟨hX9_isSheet.1, hX9_isSheet.2.1, hX9_isSheet.2.2, by decide⟩, mX9_207, sX9_isSheet⟩ rfl rfl (Nat.le_of_ble_eq_true rfl) (i_X9_isSheet) ?_
  refine x_bif_eq (pc := 4) 22 dX9_sheet_4 (by decide) (fun c1 => ?_) (fun c1 => ?_)
  · replace h := h.1 c1
    refine x_iconst (pc := 22) (-1 : Int32) dX9_sheet_22 (by decide +kernel) ?_
    exact x_ireturn2 (pc := 23) dX9_sheet_23 rfl h.1 h.2
  · replace h := h.2 c1
    refine x_iload_n (pc := 7) 2 dX9_sheet_7 rfl rfl ?_
    refine x_iconst (pc := 8) (0 : Int32) dX9_sheet_8 (by decide +kernel) ?_
    refine x_iconst (pc := 9) (3 : Int32) dX9_sheet_9 (by decide +kernel) ?_
    refine x_callS (pc := 10) [(.int a2), (.int (0 : Int32)), (.int (3 : Int32))] [] dX9_sheet_10 ⟨⟨hX9_in.1, hX9_in.2.1, hX9_in.2.2, by decide⟩, mX9_54, sX9_in⟩ rfl rfl (Nat.le_of_ble_eq_true rfl) (i_X9_in) ?_
    refine x_bif_eq (pc := 13) 22 dX9_sheet_13 (by decide) (fun c2 => ?_) (fun c2 => ?_)
    · replace h := h.1 c2
      refine x_iconst (pc := 22) (-1 : Int32) dX9_sheet_22 (by decide +kernel) ?_
      exact x_ireturn2 (pc := 23) dX9_sheet_23 rfl h.1 h.2
    · replace h := h.2 c2
      refine x_iload_n (pc := 16) 3 dX9_sheet_16 rfl rfl ?_
      refine x_bipush (pc := 17) (24 : Int32) dX9_sheet_17 (by decide +kernel) ?_
      refine x_icmp_le (pc := 19) 24 dX9_sheet_19 (by decide) (fun c3 => ?_) (fun c3 => ?_)
      · replace h := h.1 c3
        refine x_iload_n (pc := 24) 3 dX9_sheet_24 rfl rfl ?_
        refine x_if_ge (pc := 25) 31 dX9_sheet_25 (by decide) (fun c4 => ?_) (fun c4 => ?_)
        · replace h := h.1 c4
          refine x_aload_n (pc := 31) 0 dX9_sheet_31 rfl rfl ?_
          refine x_getR (pc := 32) dX9_sheet_32 fX9_7 rfl rfl ?_
          refine x_iload_n (pc := 35) 1 dX9_sheet_35 rfl rfl ?_
          refine x_iload_n (pc := 36) 2 dX9_sheet_36 rfl rfl ?_
          obtain ⟨g5, h⟩ := h
          refine x_iastore (pc := 37) (n := 4) dX9_sheet_37 rfl g5 ?_
          refine x_aload_n (pc := 38) 0 dX9_sheet_38 rfl rfl ?_
          refine x_getR (pc := 39) dX9_sheet_39 fX9_13 rfl rfl ?_
          refine x_iload_n (pc := 42) 1 dX9_sheet_42 rfl rfl ?_
          refine x_iload_n (pc := 43) 3 dX9_sheet_43 rfl rfl ?_
          obtain ⟨g6, h⟩ := h
          refine x_iastore (pc := 44) (n := 4) dX9_sheet_44 rfl g6 ?_
          refine x_iconst (pc := 45) (0 : Int32) dX9_sheet_45 (by decide +kernel) ?_
          refine x_istore (pc := 46) dX9_sheet_46 (by decide) rfl ?_
          exact x_mask [true, true, false, true, true] h
        · replace h := h.2 c4
          refine x_bipush (pc := 28) (-14 : Int32) dX9_sheet_28 (by decide +kernel) ?_
          exact x_ireturn2 (pc := 30) dX9_sheet_30 rfl h.1 h.2
      · replace h := h.2 c3
        refine x_iconst (pc := 22) (-1 : Int32) dX9_sheet_22 (by decide +kernel) ?_
        exact x_ireturn2 (pc := 23) dX9_sheet_23 rfl h.1 h.2
set_option maxRecDepth 20000 in
theorem t_X9_sheet_48 {l1 : Int32} {l3 : Int32} {l4 : Int32} {σ : kS} {x : Int32} {τ : kS}  (h : ((24 : Int32) ≤ l4 → x = l3 ∧ τ = σ) ∧ (¬ (24 : Int32) ≤ l4 → vp_in (((24 : Int32) * l1) + l4) 96 ∧ (E_X9_sheet_48 l1 l3 (l4 + (1 : Int32)) (k_sl σ 3 (((24 : Int32) * l1) + l4).toNatClampNeg (0 : Int64)) x τ))) : E_X9_sheet_48 l1 l3 l4 σ x τ := by
  unfold E_X9_sheet_48
  refine x_iload (pc := 48) dX9_sheet_48 rfl ?_
  refine x_bipush (pc := 50) (24 : Int32) dX9_sheet_50 (by decide +kernel) ?_
  refine x_icmp_ge (pc := 52) 74 dX9_sheet_52 (by decide) (fun c1 => ?_) (fun c1 => ?_)
  · replace h := h.1 c1
    refine x_iload_n (pc := 74) 3 dX9_sheet_74 rfl rfl ?_
    exact x_ireturn2 (pc := 75) dX9_sheet_75 rfl h.1 h.2
  · replace h := h.2 c1
    refine x_aload_n (pc := 55) 0 dX9_sheet_55 rfl rfl ?_
    refine x_getR (pc := 56) dX9_sheet_56 fX9_16 rfl rfl ?_
    refine x_bipush (pc := 59) (24 : Int32) dX9_sheet_59 (by decide +kernel) ?_
    refine x_iload_n (pc := 61) 1 dX9_sheet_61 rfl rfl ?_
    refine x_imul (pc := 62) dX9_sheet_62 ?_
    refine x_iload (pc := 63) dX9_sheet_63 rfl ?_
    refine x_iadd (pc := 65) dX9_sheet_65 ?_
    refine x_lconst (pc := 66) (0 : Int64) dX9_sheet_66 (by decide +kernel) ?_
    obtain ⟨g2, h⟩ := h
    refine x_lastore (pc := 67) (n := 96) dX9_sheet_67 rfl g2 ?_
    refine x_iinc (pc := 68) (1 : Int32) dX9_sheet_68 (by decide) rfl rfl (by decide +kernel) ?_
    refine x_goto (pc := 71) 48 dX9_sheet_71 (by decide) ?_
    exact h
theorem dX9_drop_0 : decode cX9_drop 0 = .ok (.iload_n 1, 1) := by decide +kernel
theorem dX9_drop_1 : decode cX9_drop 1 = .ok (.invokestatic 207, 3) := by decide +kernel
theorem dX9_drop_4 : decode cX9_drop 4 = .ok (.ifCond .ne 5, 3) := by decide +kernel
theorem dX9_drop_7 : decode cX9_drop 7 = .ok (.iconst (-1), 1) := by decide +kernel
theorem dX9_drop_8 : decode cX9_drop 8 = .ok (.ireturn, 1) := by decide +kernel
theorem dX9_drop_9 : decode cX9_drop 9 = .ok (.aload_n 0, 1) := by decide +kernel
theorem dX9_drop_10 : decode cX9_drop 10 = .ok (.getfield 7, 3) := by decide +kernel
theorem dX9_drop_13 : decode cX9_drop 13 = .ok (.iload_n 1, 1) := by decide +kernel
theorem dX9_drop_14 : decode cX9_drop 14 = .ok (.iaload, 1) := by decide +kernel
theorem dX9_drop_15 : decode cX9_drop 15 = .ok (.ifCond .ge 6, 3) := by decide +kernel
theorem dX9_drop_18 : decode cX9_drop 18 = .ok (.bipush (-11), 2) := by decide +kernel
theorem dX9_drop_20 : decode cX9_drop 20 = .ok (.ireturn, 1) := by decide +kernel
theorem dX9_drop_21 : decode cX9_drop 21 = .ok (.aload_n 0, 1) := by decide +kernel
theorem dX9_drop_22 : decode cX9_drop 22 = .ok (.getfield 7, 3) := by decide +kernel
theorem dX9_drop_25 : decode cX9_drop 25 = .ok (.iload_n 1, 1) := by decide +kernel
theorem dX9_drop_26 : decode cX9_drop 26 = .ok (.iconst (-1), 1) := by decide +kernel
theorem dX9_drop_27 : decode cX9_drop 27 = .ok (.iastore, 1) := by decide +kernel
theorem dX9_drop_28 : decode cX9_drop 28 = .ok (.aload_n 0, 1) := by decide +kernel
theorem dX9_drop_29 : decode cX9_drop 29 = .ok (.getfield 13, 3) := by decide +kernel
theorem dX9_drop_32 : decode cX9_drop 32 = .ok (.iload_n 1, 1) := by decide +kernel
theorem dX9_drop_33 : decode cX9_drop 33 = .ok (.iaload, 1) := by decide +kernel
theorem dX9_drop_34 : decode cX9_drop 34 = .ok (.ireturn, 1) := by decide +kernel
def R_X9_drop (a1 : Int32) (σ : kS) (x : Int32) (τ : kS) : Prop := Run SM jX9_drop [(.ref 0), (.int a1)] σ (some (.int x)) τ
set_option maxRecDepth 20000 in
theorem t_X9_drop {a1 : Int32} {σ : kS} {x : Int32} {τ : kS}  (h : ((iv a1 0 3) → vp_in a1 4 ∧ ((0 ≤ (σ.1 1 a1.toNatClampNeg) → vp_in a1 4 ∧ (vp_in a1 4 ∧ (x = (σ.1 2 a1.toNatClampNeg) ∧ τ = (k_si σ 1 a1.toNatClampNeg (-1 : Int32))))) ∧ (¬ 0 ≤ (σ.1 1 a1.toNatClampNeg) → x = (-11 : Int32) ∧ τ = σ))) ∧ (¬ (iv a1 0 3) → x = (-1 : Int32) ∧ τ = σ)) : R_X9_drop a1 σ x τ := by
  refine x_run [some (.ref 0), some (.int a1)] (by decide +kernel) rfl (Nat.le_of_ble_eq_true rfl) ?_
  refine x_iload_n (pc := 0) 1 dX9_drop_0 rfl rfl ?_
  refine x_callS (pc := 1) [(.int a1)] [] dX9_drop_1 ⟨⟨hX9_isSheet.1, hX9_isSheet.2.1, hX9_isSheet.2.2, by decide⟩, mX9_207, sX9_isSheet⟩ rfl rfl (Nat.le_of_ble_eq_true rfl) (i_X9_isSheet) ?_
  refine x_bif_ne (pc := 4) 9 dX9_drop_4 (by decide) (fun c1 => ?_) (fun c1 => ?_)
  · replace h := h.1 c1
    refine x_aload_n (pc := 9) 0 dX9_drop_9 rfl rfl ?_
    refine x_getR (pc := 10) dX9_drop_10 fX9_7 rfl rfl ?_
    refine x_iload_n (pc := 13) 1 dX9_drop_13 rfl rfl ?_
    obtain ⟨g2, h⟩ := h
    refine x_iaload (pc := 14) (n := 4) dX9_drop_14 rfl g2 ?_
    refine x_if_ge (pc := 15) 21 dX9_drop_15 (by decide) (fun c3 => ?_) (fun c3 => ?_)
    · replace h := h.1 c3
      refine x_aload_n (pc := 21) 0 dX9_drop_21 rfl rfl ?_
      refine x_getR (pc := 22) dX9_drop_22 fX9_7 rfl rfl ?_
      refine x_iload_n (pc := 25) 1 dX9_drop_25 rfl rfl ?_
      refine x_iconst (pc := 26) (-1 : Int32) dX9_drop_26 (by decide +kernel) ?_
      obtain ⟨g4, h⟩ := h
      refine x_iastore (pc := 27) (n := 4) dX9_drop_27 rfl g4 ?_
      refine x_aload_n (pc := 28) 0 dX9_drop_28 rfl rfl ?_
      refine x_getR (pc := 29) dX9_drop_29 fX9_13 rfl rfl ?_
      refine x_iload_n (pc := 32) 1 dX9_drop_32 rfl rfl ?_
      obtain ⟨g5, h⟩ := h
      refine x_iaload (pc := 33) (n := 4) dX9_drop_33 rfl g5 ?_
      exact x_ireturn2 (pc := 34) dX9_drop_34 rfl h.1 h.2
    · replace h := h.2 c3
      refine x_bipush (pc := 18) (-11 : Int32) dX9_drop_18 (by decide +kernel) ?_
      exact x_ireturn2 (pc := 20) dX9_drop_20 rfl h.1 h.2
  · replace h := h.2 c1
    refine x_iconst (pc := 7) (-1 : Int32) dX9_drop_7 (by decide +kernel) ?_
    exact x_ireturn2 (pc := 8) dX9_drop_8 rfl h.1 h.2
theorem dX9_item_0 : decode cX9_item 0 = .ok (.iload_n 1, 1) := by decide +kernel
theorem dX9_item_1 : decode cX9_item 1 = .ok (.invokestatic 207, 3) := by decide +kernel
theorem dX9_item_4 : decode cX9_item 4 = .ok (.ifCond .eq 12, 3) := by decide +kernel
theorem dX9_item_7 : decode cX9_item 7 = .ok (.iload_n 2, 1) := by decide +kernel
theorem dX9_item_8 : decode cX9_item 8 = .ok (.iconst 0, 1) := by decide +kernel
theorem dX9_item_9 : decode cX9_item 9 = .ok (.iconst 3, 1) := by decide +kernel
theorem dX9_item_10 : decode cX9_item 10 = .ok (.invokestatic 54, 3) := by decide +kernel
theorem dX9_item_13 : decode cX9_item 13 = .ok (.ifCond .ne 7, 3) := by decide +kernel
theorem dX9_item_16 : decode cX9_item 16 = .ok (.ldc2_w 210, 3) := by decide +kernel
theorem dX9_item_19 : decode cX9_item 19 = .ok (.lreturn, 1) := by decide +kernel
theorem dX9_item_20 : decode cX9_item 20 = .ok (.aload_n 0, 1) := by decide +kernel
theorem dX9_item_21 : decode cX9_item 21 = .ok (.iload_n 1, 1) := by decide +kernel
theorem dX9_item_22 : decode cX9_item 22 = .ok (.iload_n 2, 1) := by decide +kernel
theorem dX9_item_23 : decode cX9_item 23 = .ok (.iload_n 3, 1) := by decide +kernel
theorem dX9_item_24 : decode cX9_item 24 = .ok (.iconst 1, 1) := by decide +kernel
theorem dX9_item_25 : decode cX9_item 25 = .ok (.invokevirtual 212, 3) := by decide +kernel
theorem dX9_item_28 : decode cX9_item 28 = .ok (.istore 6, 2) := by decide +kernel
theorem dX9_item_30 : decode cX9_item 30 = .ok (.iload 6, 2) := by decide +kernel
theorem dX9_item_32 : decode cX9_item 32 = .ok (.ifCond .eq 7, 3) := by decide +kernel
theorem dX9_item_35 : decode cX9_item 35 = .ok (.iload 6, 2) := by decide +kernel
theorem dX9_item_37 : decode cX9_item 37 = .ok (.i2l, 1) := by decide +kernel
theorem dX9_item_38 : decode cX9_item 38 = .ok (.lreturn, 1) := by decide +kernel
theorem dX9_item_39 : decode cX9_item 39 = .ok (.aload_n 0, 1) := by decide +kernel
theorem dX9_item_40 : decode cX9_item 40 = .ok (.getfield 16, 3) := by decide +kernel
theorem dX9_item_43 : decode cX9_item 43 = .ok (.bipush 24, 2) := by decide +kernel
theorem dX9_item_45 : decode cX9_item 45 = .ok (.iload_n 1, 1) := by decide +kernel
theorem dX9_item_46 : decode cX9_item 46 = .ok (.imul, 1) := by decide +kernel
theorem dX9_item_47 : decode cX9_item 47 = .ok (.iload_n 3, 1) := by decide +kernel
theorem dX9_item_48 : decode cX9_item 48 = .ok (.iadd, 1) := by decide +kernel
theorem dX9_item_49 : decode cX9_item 49 = .ok (.iload_n 2, 1) := by decide +kernel
theorem dX9_item_50 : decode cX9_item 50 = .ok (.ifCond .ne 11, 3) := by decide +kernel
theorem dX9_item_53 : decode cX9_item 53 = .ok (.lload 4, 2) := by decide +kernel
theorem dX9_item_55 : decode cX9_item 55 = .ok (.l2i, 1) := by decide +kernel
theorem dX9_item_56 : decode cX9_item 56 = .ok (.i2b, 1) := by decide +kernel
theorem dX9_item_57 : decode cX9_item 57 = .ok (.i2l, 1) := by decide +kernel
theorem dX9_item_58 : decode cX9_item 58 = .ok (.goto 30, 3) := by decide +kernel
theorem dX9_item_61 : decode cX9_item 61 = .ok (.iload_n 2, 1) := by decide +kernel
theorem dX9_item_62 : decode cX9_item 62 = .ok (.iconst 1, 1) := by decide +kernel
theorem dX9_item_63 : decode cX9_item 63 = .ok (.if_icmp .ne 11, 3) := by decide +kernel
theorem dX9_item_66 : decode cX9_item 66 = .ok (.lload 4, 2) := by decide +kernel
theorem dX9_item_68 : decode cX9_item 68 = .ok (.l2i, 1) := by decide +kernel
theorem dX9_item_69 : decode cX9_item 69 = .ok (.i2s, 1) := by decide +kernel
theorem dX9_item_70 : decode cX9_item 70 = .ok (.i2l, 1) := by decide +kernel
theorem dX9_item_71 : decode cX9_item 71 = .ok (.goto 17, 3) := by decide +kernel
theorem dX9_item_74 : decode cX9_item 74 = .ok (.iload_n 2, 1) := by decide +kernel
theorem dX9_item_75 : decode cX9_item 75 = .ok (.iconst 2, 1) := by decide +kernel
theorem dX9_item_76 : decode cX9_item 76 = .ok (.if_icmp .ne 10, 3) := by decide +kernel
theorem dX9_item_79 : decode cX9_item 79 = .ok (.lload 4, 2) := by decide +kernel
theorem dX9_item_81 : decode cX9_item 81 = .ok (.l2i, 1) := by decide +kernel
theorem dX9_item_82 : decode cX9_item 82 = .ok (.i2l, 1) := by decide +kernel
theorem dX9_item_83 : decode cX9_item 83 = .ok (.goto 5, 3) := by decide +kernel
theorem dX9_item_86 : decode cX9_item 86 = .ok (.lload 4, 2) := by decide +kernel
theorem dX9_item_88 : decode cX9_item 88 = .ok (.lastore, 1) := by decide +kernel
theorem dX9_item_89 : decode cX9_item 89 = .ok (.aload_n 0, 1) := by decide +kernel
theorem dX9_item_90 : decode cX9_item 90 = .ok (.getfield 16, 3) := by decide +kernel
theorem dX9_item_93 : decode cX9_item 93 = .ok (.bipush 24, 2) := by decide +kernel
theorem dX9_item_95 : decode cX9_item 95 = .ok (.iload_n 1, 1) := by decide +kernel
theorem dX9_item_96 : decode cX9_item 96 = .ok (.imul, 1) := by decide +kernel
theorem dX9_item_97 : decode cX9_item 97 = .ok (.iload_n 3, 1) := by decide +kernel
theorem dX9_item_98 : decode cX9_item 98 = .ok (.iadd, 1) := by decide +kernel
theorem dX9_item_99 : decode cX9_item 99 = .ok (.laload, 1) := by decide +kernel
theorem dX9_item_100 : decode cX9_item 100 = .ok (.lreturn, 1) := by decide +kernel
def R_X9_item (a1 : Int32) (a2 : Int32) (a3 : Int32) (a4 : Int64) (σ : kS) (x : Int64) (τ : kS) : Prop := Run SM jX9_item [(.ref 0), (.int a1), (.int a2), (.int a3), (.long a4)] σ (some (.long x)) τ
set_option maxRecDepth 20000 in
theorem t_X9_item {a1 : Int32} {a2 : Int32} {a3 : Int32} {a4 : Int64} {σ : kS} {x : Int64} {τ : kS}  (h : (¬ (iv a1 0 3) → x = (-1 : Int64) ∧ τ = σ) ∧ ((iv a1 0 3) → ((iv a2 (0 : Int32) (3 : Int32)) → ∃ (x4 : Int32) (s3 : kS), R_X9_badRow a1 a2 a3 (1 : Int32) σ x4 s3 ∧ ((x4 = 0 → (¬ a2 = 0 → (¬ a2 = (1 : Int32) → (¬ a2 = (2 : Int32) → vp_in (((24 : Int32) * a1) + a3) 96 ∧ (vp_in (((24 : Int32) * a1) + a3) 96 ∧ (x = ((k_sl s3 3 (((24 : Int32) * a1) + a3).toNatClampNeg a4).2 3 (((24 : Int32) * a1) + a3).toNatClampNeg) ∧ τ = (k_sl s3 3 (((24 : Int32) * a1) + a3).toNatClampNeg a4)))) ∧ (a2 = (2 : Int32) → vp_in (((24 : Int32) * a1) + a3) 96 ∧ (vp_in (((24 : Int32) * a1) + a3) 96 ∧ (x = ((k_sl s3 3 (((24 : Int32) * a1) + a3).toNatClampNeg a4.toInt32.toInt64).2 3 (((24 : Int32) * a1) + a3).toNatClampNeg) ∧ τ = (k_sl s3 3 (((24 : Int32) * a1) + a3).toNatClampNeg a4.toInt32.toInt64))))) ∧ (a2 = (1 : Int32) → vp_in (((24 : Int32) * a1) + a3) 96 ∧ (vp_in (((24 : Int32) * a1) + a3) 96 ∧ (x = ((k_sl s3 3 (((24 : Int32) * a1) + a3).toNatClampNeg a4.toInt32.toInt16.toInt32.toInt64).2 3 (((24 : Int32) * a1) + a3).toNatClampNeg) ∧ τ = (k_sl s3 3 (((24 : Int32) * a1) + a3).toNatClampNeg a4.toInt32.toInt16.toInt32.toInt64))))) ∧ (a2 = 0 → vp_in (((24 : Int32) * a1) + a3) 96 ∧ (vp_in (((24 : Int32) * a1) + a3) 96 ∧ (x = ((k_sl s3 3 (((24 : Int32) * a1) + a3).toNatClampNeg a4.toInt32.toInt8.toInt32.toInt64).2 3 (((24 : Int32) * a1) + a3).toNatClampNeg) ∧ τ = (k_sl s3 3 (((24 : Int32) * a1) + a3).toNatClampNeg a4.toInt32.toInt8.toInt32.toInt64))))) ∧ (¬ x4 = 0 → x = x4.toInt64 ∧ τ = s3))) ∧ (¬ (iv a2 (0 : Int32) (3 : Int32)) → x = (-1 : Int64) ∧ τ = σ))) : R_X9_item a1 a2 a3 a4 σ x τ := by
  refine x_run [some (.ref 0), some (.int a1), some (.int a2), some (.int a3), some (.long a4), none, none] (by decide +kernel) rfl (Nat.le_of_ble_eq_true rfl) ?_
  refine x_iload_n (pc := 0) 1 dX9_item_0 rfl rfl ?_
  refine x_callS (pc := 1) [(.int a1)] [] dX9_item_1 ⟨⟨hX9_isSheet.1, hX9_isSheet.2.1, hX9_isSheet.2.2, by decide⟩, mX9_207, sX9_isSheet⟩ rfl rfl (Nat.le_of_ble_eq_true rfl) (i_X9_isSheet) ?_
  refine x_bif_eq (pc := 4) 16 dX9_item_4 (by decide) (fun c1 => ?_) (fun c1 => ?_)
  · replace h := h.1 c1
    refine x_ldc2 (pc := 16) dX9_item_16 clX9_210 ?_
    exact x_lreturn2 (pc := 19) dX9_item_19 rfl h.1 h.2
  · replace h := h.2 c1
    refine x_iload_n (pc := 7) 2 dX9_item_7 rfl rfl ?_
    refine x_iconst (pc := 8) (0 : Int32) dX9_item_8 (by decide +kernel) ?_
    refine x_iconst (pc := 9) (3 : Int32) dX9_item_9 (by decide +kernel) ?_
    refine x_callS (pc := 10) [(.int a2), (.int (0 : Int32)), (.int (3 : Int32))] [] dX9_item_10 ⟨⟨hX9_in.1, hX9_in.2.1, hX9_in.2.2, by decide⟩, mX9_54, sX9_in⟩ rfl rfl (Nat.le_of_ble_eq_true rfl) (i_X9_in) ?_
    refine x_bif_ne (pc := 13) 20 dX9_item_13 (by decide) (fun c2 => ?_) (fun c2 => ?_)
    · replace h := h.1 c2
      refine x_aload_n (pc := 20) 0 dX9_item_20 rfl rfl ?_
      refine x_iload_n (pc := 21) 1 dX9_item_21 rfl rfl ?_
      refine x_iload_n (pc := 22) 2 dX9_item_22 rfl rfl ?_
      refine x_iload_n (pc := 23) 3 dX9_item_23 rfl rfl ?_
      refine x_iconst (pc := 24) (1 : Int32) dX9_item_24 (by decide +kernel) ?_
      obtain ⟨x4, s3, hr, h⟩ := h
      refine x_callV (pc := 25) [(.int a1), (.int a2), (.int a3), (.int (1 : Int32))] [] dX9_item_25 ⟨⟨hX9_badRow.1, hX9_badRow.2.1, hX9_badRow.2.2, by decide⟩, mX9_212, vX9_badRow.1, vX9_badRow.2⟩ (ci := 9) rfl rfl rfl rfl (Nat.le_of_ble_eq_true rfl) hr ?_
      refine x_istore (pc := 28) dX9_item_28 (by decide) rfl ?_
      refine x_iload (pc := 30) dX9_item_30 rfl ?_
      refine x_if_eq (pc := 32) 39 dX9_item_32 (by decide) (fun c5 => ?_) (fun c5 => ?_)
      · replace h := h.1 c5
        refine x_aload_n (pc := 39) 0 dX9_item_39 rfl rfl ?_
        refine x_getR (pc := 40) dX9_item_40 fX9_16 rfl rfl ?_
        refine x_bipush (pc := 43) (24 : Int32) dX9_item_43 (by decide +kernel) ?_
        refine x_iload_n (pc := 45) 1 dX9_item_45 rfl rfl ?_
        refine x_imul (pc := 46) dX9_item_46 ?_
        refine x_iload_n (pc := 47) 3 dX9_item_47 rfl rfl ?_
        refine x_iadd (pc := 48) dX9_item_48 ?_
        refine x_iload_n (pc := 49) 2 dX9_item_49 rfl rfl ?_
        refine x_if_ne (pc := 50) 61 dX9_item_50 (by decide) (fun c6 => ?_) (fun c6 => ?_)
        · replace h := h.1 c6
          refine x_iload_n (pc := 61) 2 dX9_item_61 rfl rfl ?_
          refine x_iconst (pc := 62) (1 : Int32) dX9_item_62 (by decide +kernel) ?_
          refine x_icmp_ne (pc := 63) 74 dX9_item_63 (by decide) (fun c7 => ?_) (fun c7 => ?_)
          · replace h := h.1 c7
            refine x_iload_n (pc := 74) 2 dX9_item_74 rfl rfl ?_
            refine x_iconst (pc := 75) (2 : Int32) dX9_item_75 (by decide +kernel) ?_
            refine x_icmp_ne (pc := 76) 86 dX9_item_76 (by decide) (fun c8 => ?_) (fun c8 => ?_)
            · replace h := h.1 c8
              refine x_lload (pc := 86) dX9_item_86 rfl ?_
              obtain ⟨g9, h⟩ := h
              refine x_lastore (pc := 88) (n := 96) dX9_item_88 rfl g9 ?_
              refine x_aload_n (pc := 89) 0 dX9_item_89 rfl rfl ?_
              refine x_getR (pc := 90) dX9_item_90 fX9_16 rfl rfl ?_
              refine x_bipush (pc := 93) (24 : Int32) dX9_item_93 (by decide +kernel) ?_
              refine x_iload_n (pc := 95) 1 dX9_item_95 rfl rfl ?_
              refine x_imul (pc := 96) dX9_item_96 ?_
              refine x_iload_n (pc := 97) 3 dX9_item_97 rfl rfl ?_
              refine x_iadd (pc := 98) dX9_item_98 ?_
              obtain ⟨g10, h⟩ := h
              refine x_laload (pc := 99) (n := 96) dX9_item_99 rfl g10 ?_
              exact x_lreturn2 (pc := 100) dX9_item_100 rfl h.1 h.2
            · replace h := h.2 c8
              refine x_lload (pc := 79) dX9_item_79 rfl ?_
              refine x_l2i (pc := 81) dX9_item_81 ?_
              refine x_i2l (pc := 82) dX9_item_82 ?_
              refine x_goto (pc := 83) 88 dX9_item_83 (by decide) ?_
              obtain ⟨g11, h⟩ := h
              refine x_lastore (pc := 88) (n := 96) dX9_item_88 rfl g11 ?_
              refine x_aload_n (pc := 89) 0 dX9_item_89 rfl rfl ?_
              refine x_getR (pc := 90) dX9_item_90 fX9_16 rfl rfl ?_
              refine x_bipush (pc := 93) (24 : Int32) dX9_item_93 (by decide +kernel) ?_
              refine x_iload_n (pc := 95) 1 dX9_item_95 rfl rfl ?_
              refine x_imul (pc := 96) dX9_item_96 ?_
              refine x_iload_n (pc := 97) 3 dX9_item_97 rfl rfl ?_
              refine x_iadd (pc := 98) dX9_item_98 ?_
              obtain ⟨g12, h⟩ := h
              refine x_laload (pc := 99) (n := 96) dX9_item_99 rfl g12 ?_
              exact x_lreturn2 (pc := 100) dX9_item_100 rfl h.1 h.2
          · replace h := h.2 c7
            refine x_lload (pc := 66) dX9_item_66 rfl ?_
            refine x_l2i (pc := 68) dX9_item_68 ?_
            refine x_i2s (pc := 69) dX9_item_69 ?_
            refine x_i2l (pc := 70) dX9_item_70 ?_
            refine x_goto (pc := 71) 88 dX9_item_71 (by decide) ?_
            obtain ⟨g13, h⟩ := h
            refine x_lastore (pc := 88) (n := 96) dX9_item_88 rfl g13 ?_
            refine x_aload_n (pc := 89) 0 dX9_item_89 rfl rfl ?_
            refine x_getR (pc := 90) dX9_item_90 fX9_16 rfl rfl ?_
            refine x_bipush (pc := 93) (24 : Int32) dX9_item_93 (by decide +kernel) ?_
            refine x_iload_n (pc := 95) 1 dX9_item_95 rfl rfl ?_
            refine x_imul (pc := 96) dX9_item_96 ?_
            refine x_iload_n (pc := 97) 3 dX9_item_97 rfl rfl ?_
            refine x_iadd (pc := 98) dX9_item_98 ?_
            obtain ⟨g14, h⟩ := h
            refine x_laload (pc := 99) (n := 96) dX9_item_99 rfl g14 ?_
            exact x_lreturn2 (pc := 100) dX9_item_100 rfl h.1 h.2
        · replace h := h.2 c6
          refine x_lload (pc := 53) dX9_item_53 rfl ?_
          refine x_l2i (pc := 55) dX9_item_55 ?_
          refine x_i2b (pc := 56) dX9_item_56 ?_
          refine x_i2l (pc := 57) dX9_item_57 ?_
          refine x_goto (pc := 58) 88 dX9_item_58 (by decide) ?_
          obtain ⟨g15, h⟩ := h
          refine x_lastore (pc := 88) (n := 96) dX9_item_88 rfl g15 ?_
          refine x_aload_n (pc := 89) 0 dX9_item_89 rfl rfl ?_
          refine x_getR (pc := 90) dX9_item_90 fX9_16 rfl rfl ?_
          refine x_bipush (pc := 93) (24 : Int32) dX9_item_93 (by decide +kernel) ?_
          refine x_iload_n (pc := 95) 1 dX9_item_95 rfl rfl ?_
          refine x_imul (pc := 96) dX9_item_96 ?_
          refine x_iload_n (pc := 97) 3 dX9_item_97 rfl rfl ?_
          refine x_iadd (pc := 98) dX9_item_98 ?_
          obtain ⟨g16, h⟩ := h
          refine x_laload (pc := 99) (n := 96) dX9_item_99 rfl g16 ?_
          exact x_lreturn2 (pc := 100) dX9_item_100 rfl h.1 h.2
      · replace h := h.2 c5
        refine x_iload (pc := 35) dX9_item_35 rfl ?_
        refine x_i2l (pc := 37) dX9_item_37 ?_
        exact x_lreturn2 (pc := 38) dX9_item_38 rfl h.1 h.2
    · replace h := h.2 c2
      refine x_ldc2 (pc := 16) dX9_item_16 clX9_210 ?_
      exact x_lreturn2 (pc := 19) dX9_item_19 rfl h.1 h.2
theorem dX9_copy_0 : decode cX9_copy 0 = .ok (.iload_n 1, 1) := by decide +kernel
theorem dX9_copy_1 : decode cX9_copy 1 = .ok (.invokestatic 207, 3) := by decide +kernel
theorem dX9_copy_4 : decode cX9_copy 4 = .ok (.ifCond .eq 10, 3) := by decide +kernel
theorem dX9_copy_7 : decode cX9_copy 7 = .ok (.iload_n 3, 1) := by decide +kernel
theorem dX9_copy_8 : decode cX9_copy 8 = .ok (.invokestatic 207, 3) := by decide +kernel
theorem dX9_copy_11 : decode cX9_copy 11 = .ok (.ifCond .ne 5, 3) := by decide +kernel
theorem dX9_copy_14 : decode cX9_copy 14 = .ok (.iconst (-1), 1) := by decide +kernel
theorem dX9_copy_15 : decode cX9_copy 15 = .ok (.ireturn, 1) := by decide +kernel
theorem dX9_copy_16 : decode cX9_copy 16 = .ok (.aload_n 0, 1) := by decide +kernel
theorem dX9_copy_17 : decode cX9_copy 17 = .ok (.getfield 7, 3) := by decide +kernel
theorem dX9_copy_20 : decode cX9_copy 20 = .ok (.iload_n 1, 1) := by decide +kernel
theorem dX9_copy_21 : decode cX9_copy 21 = .ok (.iaload, 1) := by decide +kernel
theorem dX9_copy_22 : decode cX9_copy 22 = .ok (.ifCond .lt 12, 3) := by decide +kernel
theorem dX9_copy_25 : decode cX9_copy 25 = .ok (.aload_n 0, 1) := by decide +kernel
theorem dX9_copy_26 : decode cX9_copy 26 = .ok (.getfield 7, 3) := by decide +kernel
theorem dX9_copy_29 : decode cX9_copy 29 = .ok (.iload_n 3, 1) := by decide +kernel
theorem dX9_copy_30 : decode cX9_copy 30 = .ok (.iaload, 1) := by decide +kernel
theorem dX9_copy_31 : decode cX9_copy 31 = .ok (.ifCond .ge 6, 3) := by decide +kernel
theorem dX9_copy_34 : decode cX9_copy 34 = .ok (.bipush (-11), 2) := by decide +kernel
theorem dX9_copy_36 : decode cX9_copy 36 = .ok (.ireturn, 1) := by decide +kernel
theorem dX9_copy_37 : decode cX9_copy 37 = .ok (.aload_n 0, 1) := by decide +kernel
theorem dX9_copy_38 : decode cX9_copy 38 = .ok (.getfield 7, 3) := by decide +kernel
theorem dX9_copy_41 : decode cX9_copy 41 = .ok (.iload_n 1, 1) := by decide +kernel
theorem dX9_copy_42 : decode cX9_copy 42 = .ok (.iaload, 1) := by decide +kernel
theorem dX9_copy_43 : decode cX9_copy 43 = .ok (.aload_n 0, 1) := by decide +kernel
theorem dX9_copy_44 : decode cX9_copy 44 = .ok (.getfield 7, 3) := by decide +kernel
theorem dX9_copy_47 : decode cX9_copy 47 = .ok (.iload_n 3, 1) := by decide +kernel
theorem dX9_copy_48 : decode cX9_copy 48 = .ok (.iaload, 1) := by decide +kernel
theorem dX9_copy_49 : decode cX9_copy 49 = .ok (.if_icmp .eq 6, 3) := by decide +kernel
theorem dX9_copy_52 : decode cX9_copy 52 = .ok (.bipush (-12), 2) := by decide +kernel
theorem dX9_copy_54 : decode cX9_copy 54 = .ok (.ireturn, 1) := by decide +kernel
theorem dX9_copy_55 : decode cX9_copy 55 = .ok (.iload_n 2, 1) := by decide +kernel
theorem dX9_copy_56 : decode cX9_copy 56 = .ok (.iload 5, 2) := by decide +kernel
theorem dX9_copy_58 : decode cX9_copy 58 = .ok (.aload_n 0, 1) := by decide +kernel
theorem dX9_copy_59 : decode cX9_copy 59 = .ok (.getfield 13, 3) := by decide +kernel
theorem dX9_copy_62 : decode cX9_copy 62 = .ok (.iload_n 1, 1) := by decide +kernel
theorem dX9_copy_63 : decode cX9_copy 63 = .ok (.iaload, 1) := by decide +kernel
theorem dX9_copy_64 : decode cX9_copy 64 = .ok (.invokestatic 204, 3) := by decide +kernel
theorem dX9_copy_67 : decode cX9_copy 67 = .ok (.ifCond .eq 19, 3) := by decide +kernel
theorem dX9_copy_70 : decode cX9_copy 70 = .ok (.iload 4, 2) := by decide +kernel
theorem dX9_copy_72 : decode cX9_copy 72 = .ok (.iload 5, 2) := by decide +kernel
theorem dX9_copy_74 : decode cX9_copy 74 = .ok (.aload_n 0, 1) := by decide +kernel
theorem dX9_copy_75 : decode cX9_copy 75 = .ok (.getfield 13, 3) := by decide +kernel
theorem dX9_copy_78 : decode cX9_copy 78 = .ok (.iload_n 3, 1) := by decide +kernel
theorem dX9_copy_79 : decode cX9_copy 79 = .ok (.iaload, 1) := by decide +kernel
theorem dX9_copy_80 : decode cX9_copy 80 = .ok (.invokestatic 204, 3) := by decide +kernel
theorem dX9_copy_83 : decode cX9_copy 83 = .ok (.ifCond .ne 6, 3) := by decide +kernel
theorem dX9_copy_86 : decode cX9_copy 86 = .ok (.bipush (-13), 2) := by decide +kernel
theorem dX9_copy_88 : decode cX9_copy 88 = .ok (.ireturn, 1) := by decide +kernel
theorem dX9_copy_89 : decode cX9_copy 89 = .ok (.iload_n 1, 1) := by decide +kernel
theorem dX9_copy_90 : decode cX9_copy 90 = .ok (.iload_n 3, 1) := by decide +kernel
theorem dX9_copy_91 : decode cX9_copy 91 = .ok (.if_icmp .ne 13, 3) := by decide +kernel
theorem dX9_copy_94 : decode cX9_copy 94 = .ok (.iload 4, 2) := by decide +kernel
theorem dX9_copy_96 : decode cX9_copy 96 = .ok (.iload_n 2, 1) := by decide +kernel
theorem dX9_copy_97 : decode cX9_copy 97 = .ok (.if_icmp .le 7, 3) := by decide +kernel
theorem dX9_copy_100 : decode cX9_copy 100 = .ok (.iconst 1, 1) := by decide +kernel
theorem dX9_copy_101 : decode cX9_copy 101 = .ok (.goto 4, 3) := by decide +kernel
theorem dX9_copy_104 : decode cX9_copy 104 = .ok (.iconst 0, 1) := by decide +kernel
theorem dX9_copy_105 : decode cX9_copy 105 = .ok (.istore 6, 2) := by decide +kernel
theorem dX9_copy_107 : decode cX9_copy 107 = .ok (.iconst 0, 1) := by decide +kernel
theorem dX9_copy_108 : decode cX9_copy 108 = .ok (.istore 7, 2) := by decide +kernel
theorem dX9_copy_110 : decode cX9_copy 110 = .ok (.iload 7, 2) := by decide +kernel
theorem dX9_copy_112 : decode cX9_copy 112 = .ok (.iload 5, 2) := by decide +kernel
theorem dX9_copy_114 : decode cX9_copy 114 = .ok (.if_icmp .ge 57, 3) := by decide +kernel
theorem dX9_copy_117 : decode cX9_copy 117 = .ok (.iload 6, 2) := by decide +kernel
theorem dX9_copy_119 : decode cX9_copy 119 = .ok (.ifCond .eq 13, 3) := by decide +kernel
theorem dX9_copy_122 : decode cX9_copy 122 = .ok (.iload 5, 2) := by decide +kernel
theorem dX9_copy_124 : decode cX9_copy 124 = .ok (.iconst 1, 1) := by decide +kernel
theorem dX9_copy_125 : decode cX9_copy 125 = .ok (.isub, 1) := by decide +kernel
theorem dX9_copy_126 : decode cX9_copy 126 = .ok (.iload 7, 2) := by decide +kernel
theorem dX9_copy_128 : decode cX9_copy 128 = .ok (.isub, 1) := by decide +kernel
theorem dX9_copy_129 : decode cX9_copy 129 = .ok (.goto 5, 3) := by decide +kernel
theorem dX9_copy_132 : decode cX9_copy 132 = .ok (.iload 7, 2) := by decide +kernel
theorem dX9_copy_134 : decode cX9_copy 134 = .ok (.istore 8, 2) := by decide +kernel
theorem dX9_copy_136 : decode cX9_copy 136 = .ok (.aload_n 0, 1) := by decide +kernel
theorem dX9_copy_137 : decode cX9_copy 137 = .ok (.getfield 16, 3) := by decide +kernel
theorem dX9_copy_140 : decode cX9_copy 140 = .ok (.bipush 24, 2) := by decide +kernel
theorem dX9_copy_142 : decode cX9_copy 142 = .ok (.iload_n 3, 1) := by decide +kernel
theorem dX9_copy_143 : decode cX9_copy 143 = .ok (.imul, 1) := by decide +kernel
theorem dX9_copy_144 : decode cX9_copy 144 = .ok (.iload 4, 2) := by decide +kernel
theorem dX9_copy_146 : decode cX9_copy 146 = .ok (.iadd, 1) := by decide +kernel
theorem dX9_copy_147 : decode cX9_copy 147 = .ok (.iload 8, 2) := by decide +kernel
theorem dX9_copy_149 : decode cX9_copy 149 = .ok (.iadd, 1) := by decide +kernel
theorem dX9_copy_150 : decode cX9_copy 150 = .ok (.aload_n 0, 1) := by decide +kernel
theorem dX9_copy_151 : decode cX9_copy 151 = .ok (.getfield 16, 3) := by decide +kernel
theorem dX9_copy_154 : decode cX9_copy 154 = .ok (.bipush 24, 2) := by decide +kernel
theorem dX9_copy_156 : decode cX9_copy 156 = .ok (.iload_n 1, 1) := by decide +kernel
theorem dX9_copy_157 : decode cX9_copy 157 = .ok (.imul, 1) := by decide +kernel
theorem dX9_copy_158 : decode cX9_copy 158 = .ok (.iload_n 2, 1) := by decide +kernel
theorem dX9_copy_159 : decode cX9_copy 159 = .ok (.iadd, 1) := by decide +kernel
theorem dX9_copy_160 : decode cX9_copy 160 = .ok (.iload 8, 2) := by decide +kernel
theorem dX9_copy_162 : decode cX9_copy 162 = .ok (.iadd, 1) := by decide +kernel
theorem dX9_copy_163 : decode cX9_copy 163 = .ok (.laload, 1) := by decide +kernel
theorem dX9_copy_164 : decode cX9_copy 164 = .ok (.lastore, 1) := by decide +kernel
theorem dX9_copy_165 : decode cX9_copy 165 = .ok (.iinc 7 1, 3) := by decide +kernel
theorem dX9_copy_168 : decode cX9_copy 168 = .ok (.goto (-58), 3) := by decide +kernel
theorem dX9_copy_171 : decode cX9_copy 171 = .ok (.iload 5, 2) := by decide +kernel
theorem dX9_copy_173 : decode cX9_copy 173 = .ok (.ireturn, 1) := by decide +kernel
def R_X9_copy (a1 : Int32) (a2 : Int32) (a3 : Int32) (a4 : Int32) (a5 : Int32) (σ : kS) (x : Int32) (τ : kS) : Prop := Run SM jX9_copy [(.ref 0), (.int a1), (.int a2), (.int a3), (.int a4), (.int a5)] σ (some (.int x)) τ
def E_X9_copy_110 (l1 : Int32) (l2 : Int32) (l3 : Int32) (l4 : Int32) (l5 : Int32) (l6 : Int32) (l7 : Int32) (σ : kS) (x : Int32) (τ : kS) : Prop := Ex SM jX9_copy 110 [some (.ref 0), some (.int l1), some (.int l2), some (.int l3), some (.int l4), some (.int l5), some (.int l6), some (.int l7), none] [] σ (some (.int x)) τ
def E_X9_copy_134 (l1 : Int32) (l2 : Int32) (l3 : Int32) (l4 : Int32) (l5 : Int32) (l6 : Int32) (l7 : Int32) (y0 : Int32) (σ : kS) (x : Int32) (τ : kS) : Prop := Ex SM jX9_copy 134 [some (.ref 0), some (.int l1), some (.int l2), some (.int l3), some (.int l4), some (.int l5), some (.int l6), some (.int l7), none] [(.int y0)] σ (some (.int x)) τ
set_option maxRecDepth 20000 in
theorem t_X9_copy {a1 : Int32} {a2 : Int32} {a3 : Int32} {a4 : Int32} {a5 : Int32} {σ : kS} {x : Int32} {τ : kS}  (h : (¬ (iv a1 0 3) → x = (-1 : Int32) ∧ τ = σ) ∧ ((iv a1 0 3) → ((iv a3 0 3) → vp_in a1 4 ∧ (((σ.1 1 a1.toNatClampNeg) < 0 → x = (-11 : Int32) ∧ τ = σ) ∧ (¬ (σ.1 1 a1.toNatClampNeg) < 0 → vp_in a3 4 ∧ ((0 ≤ (σ.1 1 a3.toNatClampNeg) → vp_in a1 4 ∧ (vp_in a3 4 ∧ (((σ.1 1 a1.toNatClampNeg) = (σ.1 1 a3.toNatClampNeg) → vp_in a1 4 ∧ ((¬ (ip a2 a5 (σ.1 2 a1.toNatClampNeg)) → x = (-13 : Int32) ∧ τ = σ) ∧ ((ip a2 a5 (σ.1 2 a1.toNatClampNeg)) → vp_in a3 4 ∧ (((ip a4 a5 (σ.1 2 a3.toNatClampNeg)) → (¬ a1 = a3 → E_X9_copy_110 a1 a2 a3 a4 a5 (0 : Int32) (0 : Int32) σ x τ) ∧ (a1 = a3 → (a4 ≤ a2 → E_X9_copy_110 a1 a2 a3 a4 a5 (0 : Int32) (0 : Int32) σ x τ) ∧ (¬ a4 ≤ a2 → E_X9_copy_110 a1 a2 a3 a4 a5 (1 : Int32) (0 : Int32) σ x τ))) ∧ (¬ (ip a4 a5 (σ.1 2 a3.toNatClampNeg)) → x = (-13 : Int32) ∧ τ = σ))))) ∧ (¬ (σ.1 1 a1.toNatClampNeg) = (σ.1 1 a3.toNatClampNeg) → x = (-12 : Int32) ∧ τ = σ)))) ∧ (¬ 0 ≤ (σ.1 1 a3.toNatClampNeg) → x = (-11 : Int32) ∧ τ = σ))))) ∧ (¬ (iv a3 0 3) → x = (-1 : Int32) ∧ τ = σ))) : R_X9_copy a1 a2 a3 a4 a5 σ x τ := by
  refine x_run [some (.ref 0), some (.int a1), some (.int a2), some (.int a3), some (.int a4), some (.int a5), none, none, none] (by decide +kernel) rfl (Nat.le_of_ble_eq_true rfl) ?_
  refine x_iload_n (pc := 0) 1 dX9_copy_0 rfl rfl ?_
  refine x_callS (pc := 1) [(.int a1)] [] dX9_copy_1 ⟨⟨hX9_isSheet.1, hX9_isSheet.2.1, hX9_isSheet.2.2, by decide⟩, mX9_207, sX9_isSheet⟩ rfl rfl (Nat.le_of_ble_eq_true rfl) (i_X9_isSheet) ?_
  refine x_bif_eq (pc := 4) 14 dX9_copy_4 (by decide) (fun c1 => ?_) (fun c1 => ?_)
  · replace h := h.1 c1
    refine x_iconst (pc := 14) (-1 : Int32) dX9_copy_14 (by decide +kernel) ?_
    exact x_ireturn2 (pc := 15) dX9_copy_15 rfl h.1 h.2
  · replace h := h.2 c1
    refine x_iload_n (pc := 7) 3 dX9_copy_7 rfl rfl ?_
    refine x_callS (pc := 8) [(.int a3)] [] dX9_copy_8 ⟨⟨hX9_isSheet.1, hX9_isSheet.2.1, hX9_isSheet.2.2, by decide⟩, mX9_207, sX9_isSheet⟩ rfl rfl (Nat.le_of_ble_eq_true rfl) (i_X9_isSheet) ?_
    refine x_bif_ne (pc := 11) 16 dX9_copy_11 (by decide) (fun c2 => ?_) (fun c2 => ?_)
    · replace h := h.1 c2
      refine x_aload_n (pc := 16) 0 dX9_copy_16 rfl rfl ?_
      refine x_getR (pc := 17) dX9_copy_17 fX9_7 rfl rfl ?_
      refine x_iload_n (pc := 20) 1 dX9_copy_20 rfl rfl ?_
      obtain ⟨g3, h⟩ := h
      refine x_iaload (pc := 21) (n := 4) dX9_copy_21 rfl g3 ?_
      refine x_if_lt (pc := 22) 34 dX9_copy_22 (by decide) (fun c4 => ?_) (fun c4 => ?_)
      · replace h := h.1 c4
        refine x_bipush (pc := 34) (-11 : Int32) dX9_copy_34 (by decide +kernel) ?_
        exact x_ireturn2 (pc := 36) dX9_copy_36 rfl h.1 h.2
      · replace h := h.2 c4
        refine x_aload_n (pc := 25) 0 dX9_copy_25 rfl rfl ?_
        refine x_getR (pc := 26) dX9_copy_26 fX9_7 rfl rfl ?_
        refine x_iload_n (pc := 29) 3 dX9_copy_29 rfl rfl ?_
        obtain ⟨g5, h⟩ := h
        refine x_iaload (pc := 30) (n := 4) dX9_copy_30 rfl g5 ?_
        refine x_if_ge (pc := 31) 37 dX9_copy_31 (by decide) (fun c6 => ?_) (fun c6 => ?_)
        · replace h := h.1 c6
          refine x_aload_n (pc := 37) 0 dX9_copy_37 rfl rfl ?_
          refine x_getR (pc := 38) dX9_copy_38 fX9_7 rfl rfl ?_
          refine x_iload_n (pc := 41) 1 dX9_copy_41 rfl rfl ?_
          obtain ⟨g7, h⟩ := h
          refine x_iaload (pc := 42) (n := 4) dX9_copy_42 rfl g7 ?_
          refine x_aload_n (pc := 43) 0 dX9_copy_43 rfl rfl ?_
          refine x_getR (pc := 44) dX9_copy_44 fX9_7 rfl rfl ?_
          refine x_iload_n (pc := 47) 3 dX9_copy_47 rfl rfl ?_
          obtain ⟨g8, h⟩ := h
          refine x_iaload (pc := 48) (n := 4) dX9_copy_48 rfl g8 ?_
          refine x_icmp_eq (pc := 49) 55 dX9_copy_49 (by decide) (fun c9 => ?_) (fun c9 => ?_)
          · replace h := h.1 c9
            refine x_iload_n (pc := 55) 2 dX9_copy_55 rfl rfl ?_
            refine x_iload (pc := 56) dX9_copy_56 rfl ?_
            refine x_aload_n (pc := 58) 0 dX9_copy_58 rfl rfl ?_
            refine x_getR (pc := 59) dX9_copy_59 fX9_13 rfl rfl ?_
            refine x_iload_n (pc := 62) 1 dX9_copy_62 rfl rfl ?_
            obtain ⟨g10, h⟩ := h
            refine x_iaload (pc := 63) (n := 4) dX9_copy_63 rfl g10 ?_
            refine x_callS (pc := 64) [(.int a2), (.int a5), (.int (σ.1 2 a1.toNatClampNeg))] [] dX9_copy_64 ⟨⟨hX9_isPart.1, hX9_isPart.2.1, hX9_isPart.2.2, by decide⟩, mX9_204, sX9_isPart⟩ rfl rfl (Nat.le_of_ble_eq_true rfl) (i_X9_isPart) ?_
            refine x_bif_eq (pc := 67) 86 dX9_copy_67 (by decide) (fun c11 => ?_) (fun c11 => ?_)
            · replace h := h.1 c11
              refine x_bipush (pc := 86) (-13 : Int32) dX9_copy_86 (by decide +kernel) ?_
              exact x_ireturn2 (pc := 88) dX9_copy_88 rfl h.1 h.2
            · replace h := h.2 c11
              refine x_iload (pc := 70) dX9_copy_70 rfl ?_
              refine x_iload (pc := 72) dX9_copy_72 rfl ?_
              refine x_aload_n (pc := 74) 0 dX9_copy_74 rfl rfl ?_
              refine x_getR (pc := 75) dX9_copy_75 fX9_13 rfl rfl ?_
              refine x_iload_n (pc := 78) 3 dX9_copy_78 rfl rfl ?_
              obtain ⟨g12, h⟩ := h
              refine x_iaload (pc := 79) (n := 4) dX9_copy_79 rfl g12 ?_
              refine x_callS (pc := 80) [(.int a4), (.int a5), (.int (σ.1 2 a3.toNatClampNeg))] [] dX9_copy_80 ⟨⟨hX9_isPart.1, hX9_isPart.2.1, hX9_isPart.2.2, by decide⟩, mX9_204, sX9_isPart⟩ rfl rfl (Nat.le_of_ble_eq_true rfl) (i_X9_isPart) ?_
              refine x_bif_ne (pc := 83) 89 dX9_copy_83 (by decide) (fun c13 => ?_) (fun c13 => ?_)
              · replace h := h.1 c13
                refine x_iload_n (pc := 89) 1 dX9_copy_89 rfl rfl ?_
                refine x_iload_n (pc := 90) 3 dX9_copy_90 rfl rfl ?_
                refine x_icmp_ne (pc := 91) 104 dX9_copy_91 (by decide) (fun c14 => ?_) (fun c14 => ?_)
                · replace h := h.1 c14
                  refine x_iconst (pc := 104) (0 : Int32) dX9_copy_104 (by decide +kernel) ?_
                  refine x_istore (pc := 105) dX9_copy_105 (by decide) rfl ?_
                  refine x_iconst (pc := 107) (0 : Int32) dX9_copy_107 (by decide +kernel) ?_
                  refine x_istore (pc := 108) dX9_copy_108 (by decide) rfl ?_
                  exact h
                · replace h := h.2 c14
                  refine x_iload (pc := 94) dX9_copy_94 rfl ?_
                  refine x_iload_n (pc := 96) 2 dX9_copy_96 rfl rfl ?_
                  refine x_icmp_le (pc := 97) 104 dX9_copy_97 (by decide) (fun c15 => ?_) (fun c15 => ?_)
                  · replace h := h.1 c15
                    refine x_iconst (pc := 104) (0 : Int32) dX9_copy_104 (by decide +kernel) ?_
                    refine x_istore (pc := 105) dX9_copy_105 (by decide) rfl ?_
                    refine x_iconst (pc := 107) (0 : Int32) dX9_copy_107 (by decide +kernel) ?_
                    refine x_istore (pc := 108) dX9_copy_108 (by decide) rfl ?_
                    exact h
                  · replace h := h.2 c15
                    refine x_iconst (pc := 100) (1 : Int32) dX9_copy_100 (by decide +kernel) ?_
                    refine x_goto (pc := 101) 105 dX9_copy_101 (by decide) ?_
                    refine x_istore (pc := 105) dX9_copy_105 (by decide) rfl ?_
                    refine x_iconst (pc := 107) (0 : Int32) dX9_copy_107 (by decide +kernel) ?_
                    refine x_istore (pc := 108) dX9_copy_108 (by decide) rfl ?_
                    exact h
              · replace h := h.2 c13
                refine x_bipush (pc := 86) (-13 : Int32) dX9_copy_86 (by decide +kernel) ?_
                exact x_ireturn2 (pc := 88) dX9_copy_88 rfl h.1 h.2
          · replace h := h.2 c9
            refine x_bipush (pc := 52) (-12 : Int32) dX9_copy_52 (by decide +kernel) ?_
            exact x_ireturn2 (pc := 54) dX9_copy_54 rfl h.1 h.2
        · replace h := h.2 c6
          refine x_bipush (pc := 34) (-11 : Int32) dX9_copy_34 (by decide +kernel) ?_
          exact x_ireturn2 (pc := 36) dX9_copy_36 rfl h.1 h.2
    · replace h := h.2 c2
      refine x_iconst (pc := 14) (-1 : Int32) dX9_copy_14 (by decide +kernel) ?_
      exact x_ireturn2 (pc := 15) dX9_copy_15 rfl h.1 h.2
set_option maxRecDepth 20000 in
theorem t_X9_copy_110 {l1 : Int32} {l2 : Int32} {l3 : Int32} {l4 : Int32} {l5 : Int32} {l6 : Int32} {l7 : Int32} {σ : kS} {x : Int32} {τ : kS}  (h : (l5 ≤ l7 → x = l5 ∧ τ = σ) ∧ (¬ l5 ≤ l7 → (l6 = 0 → E_X9_copy_134 l1 l2 l3 l4 l5 l6 l7 l7 σ x τ) ∧ (¬ l6 = 0 → E_X9_copy_134 l1 l2 l3 l4 l5 l6 l7 ((l5 - (1 : Int32)) - l7) σ x τ))) : E_X9_copy_110 l1 l2 l3 l4 l5 l6 l7 σ x τ := by
  unfold E_X9_copy_110
  refine x_iload (pc := 110) dX9_copy_110 rfl ?_
  refine x_iload (pc := 112) dX9_copy_112 rfl ?_
  refine x_icmp_ge (pc := 114) 171 dX9_copy_114 (by decide) (fun c1 => ?_) (fun c1 => ?_)
  · replace h := h.1 c1
    refine x_iload (pc := 171) dX9_copy_171 rfl ?_
    exact x_ireturn2 (pc := 173) dX9_copy_173 rfl h.1 h.2
  · replace h := h.2 c1
    refine x_iload (pc := 117) dX9_copy_117 rfl ?_
    refine x_if_eq (pc := 119) 132 dX9_copy_119 (by decide) (fun c2 => ?_) (fun c2 => ?_)
    · replace h := h.1 c2
      refine x_iload (pc := 132) dX9_copy_132 rfl ?_
      exact h
    · replace h := h.2 c2
      refine x_iload (pc := 122) dX9_copy_122 rfl ?_
      refine x_iconst (pc := 124) (1 : Int32) dX9_copy_124 (by decide +kernel) ?_
      refine x_isub (pc := 125) dX9_copy_125 ?_
      refine x_iload (pc := 126) dX9_copy_126 rfl ?_
      refine x_isub (pc := 128) dX9_copy_128 ?_
      refine x_goto (pc := 129) 134 dX9_copy_129 (by decide) ?_
      exact h
set_option maxRecDepth 20000 in
theorem t_X9_copy_134 {l1 : Int32} {l2 : Int32} {l3 : Int32} {l4 : Int32} {l5 : Int32} {l6 : Int32} {l7 : Int32} {y0 : Int32} {σ : kS} {x : Int32} {τ : kS}  (h : vp_in ((((24 : Int32) * l1) + l2) + y0) 96 ∧ (vp_in ((((24 : Int32) * l3) + l4) + y0) 96 ∧ (E_X9_copy_110 l1 l2 l3 l4 l5 l6 (l7 + (1 : Int32)) (k_sl σ 3 ((((24 : Int32) * l3) + l4) + y0).toNatClampNeg (σ.2 3 ((((24 : Int32) * l1) + l2) + y0).toNatClampNeg)) x τ))) : E_X9_copy_134 l1 l2 l3 l4 l5 l6 l7 y0 σ x τ := by
  unfold E_X9_copy_134
  refine x_istore (pc := 134) dX9_copy_134 (by decide) rfl ?_
  refine x_aload_n (pc := 136) 0 dX9_copy_136 rfl rfl ?_
  refine x_getR (pc := 137) dX9_copy_137 fX9_16 rfl rfl ?_
  refine x_bipush (pc := 140) (24 : Int32) dX9_copy_140 (by decide +kernel) ?_
  refine x_iload_n (pc := 142) 3 dX9_copy_142 rfl rfl ?_
  refine x_imul (pc := 143) dX9_copy_143 ?_
  refine x_iload (pc := 144) dX9_copy_144 rfl ?_
  refine x_iadd (pc := 146) dX9_copy_146 ?_
  refine x_iload (pc := 147) dX9_copy_147 rfl ?_
  refine x_iadd (pc := 149) dX9_copy_149 ?_
  refine x_aload_n (pc := 150) 0 dX9_copy_150 rfl rfl ?_
  refine x_getR (pc := 151) dX9_copy_151 fX9_16 rfl rfl ?_
  refine x_bipush (pc := 154) (24 : Int32) dX9_copy_154 (by decide +kernel) ?_
  refine x_iload_n (pc := 156) 1 dX9_copy_156 rfl rfl ?_
  refine x_imul (pc := 157) dX9_copy_157 ?_
  refine x_iload_n (pc := 158) 2 dX9_copy_158 rfl rfl ?_
  refine x_iadd (pc := 159) dX9_copy_159 ?_
  refine x_iload (pc := 160) dX9_copy_160 rfl ?_
  refine x_iadd (pc := 162) dX9_copy_162 ?_
  obtain ⟨g1, h⟩ := h
  refine x_laload (pc := 163) (n := 96) dX9_copy_163 rfl g1 ?_
  obtain ⟨g2, h⟩ := h
  refine x_lastore (pc := 164) (n := 96) dX9_copy_164 rfl g2 ?_
  refine x_iinc (pc := 165) (1 : Int32) dX9_copy_165 (by decide) rfl rfl (by decide +kernel) ?_
  refine x_goto (pc := 168) 110 dX9_copy_168 (by decide) ?_
  exact x_mask [true, true, true, true, true, true, true, true, false] h
theorem dX9_cutTo_0 : decode cX9_cutTo 0 = .ok (.iload_n 0, 1) := by decide +kernel
theorem dX9_cutTo_1 : decode cX9_cutTo 1 = .ok (.ifCond .ne 10, 3) := by decide +kernel
theorem dX9_cutTo_4 : decode cX9_cutTo 4 = .ok (.lload_n 1, 1) := by decide +kernel
theorem dX9_cutTo_5 : decode cX9_cutTo 5 = .ok (.l2i, 1) := by decide +kernel
theorem dX9_cutTo_6 : decode cX9_cutTo 6 = .ok (.i2b, 1) := by decide +kernel
theorem dX9_cutTo_7 : decode cX9_cutTo 7 = .ok (.i2l, 1) := by decide +kernel
theorem dX9_cutTo_8 : decode cX9_cutTo 8 = .ok (.goto 27, 3) := by decide +kernel
theorem dX9_cutTo_11 : decode cX9_cutTo 11 = .ok (.iload_n 0, 1) := by decide +kernel
theorem dX9_cutTo_12 : decode cX9_cutTo 12 = .ok (.iconst 1, 1) := by decide +kernel
theorem dX9_cutTo_13 : decode cX9_cutTo 13 = .ok (.if_icmp .ne 10, 3) := by decide +kernel
theorem dX9_cutTo_16 : decode cX9_cutTo 16 = .ok (.lload_n 1, 1) := by decide +kernel
theorem dX9_cutTo_17 : decode cX9_cutTo 17 = .ok (.l2i, 1) := by decide +kernel
theorem dX9_cutTo_18 : decode cX9_cutTo 18 = .ok (.i2s, 1) := by decide +kernel
theorem dX9_cutTo_19 : decode cX9_cutTo 19 = .ok (.i2l, 1) := by decide +kernel
theorem dX9_cutTo_20 : decode cX9_cutTo 20 = .ok (.goto 15, 3) := by decide +kernel
theorem dX9_cutTo_23 : decode cX9_cutTo 23 = .ok (.iload_n 0, 1) := by decide +kernel
theorem dX9_cutTo_24 : decode cX9_cutTo 24 = .ok (.iconst 2, 1) := by decide +kernel
theorem dX9_cutTo_25 : decode cX9_cutTo 25 = .ok (.if_icmp .ne 9, 3) := by decide +kernel
theorem dX9_cutTo_28 : decode cX9_cutTo 28 = .ok (.lload_n 1, 1) := by decide +kernel
theorem dX9_cutTo_29 : decode cX9_cutTo 29 = .ok (.l2i, 1) := by decide +kernel
theorem dX9_cutTo_30 : decode cX9_cutTo 30 = .ok (.i2l, 1) := by decide +kernel
theorem dX9_cutTo_31 : decode cX9_cutTo 31 = .ok (.goto 4, 3) := by decide +kernel
theorem dX9_cutTo_34 : decode cX9_cutTo 34 = .ok (.lload_n 1, 1) := by decide +kernel
theorem dX9_cutTo_35 : decode cX9_cutTo 35 = .ok (.lreturn, 1) := by decide +kernel
def R_X9_cutTo (a0 : Int32) (a1 : Int64) (σ : kS) (x : Int64) (τ : kS) : Prop := Run SM jX9_cutTo [(.int a0), (.long a1)] σ (some (.long x)) τ
set_option maxRecDepth 20000 in
theorem t_X9_cutTo {a0 : Int32} {a1 : Int64} {σ : kS} {x : Int64} {τ : kS}  (h : (¬ a0 = 0 → (¬ a0 = (1 : Int32) → (¬ a0 = (2 : Int32) → x = a1 ∧ τ = σ) ∧ (a0 = (2 : Int32) → x = a1.toInt32.toInt64 ∧ τ = σ)) ∧ (a0 = (1 : Int32) → x = a1.toInt32.toInt16.toInt32.toInt64 ∧ τ = σ)) ∧ (a0 = 0 → x = a1.toInt32.toInt8.toInt32.toInt64 ∧ τ = σ)) : R_X9_cutTo a0 a1 σ x τ := by
  refine x_run [some (.int a0), some (.long a1), none] (by decide +kernel) rfl (Nat.le_of_ble_eq_true rfl) ?_
  refine x_iload_n (pc := 0) 0 dX9_cutTo_0 rfl rfl ?_
  refine x_if_ne (pc := 1) 11 dX9_cutTo_1 (by decide) (fun c1 => ?_) (fun c1 => ?_)
  · replace h := h.1 c1
    refine x_iload_n (pc := 11) 0 dX9_cutTo_11 rfl rfl ?_
    refine x_iconst (pc := 12) (1 : Int32) dX9_cutTo_12 (by decide +kernel) ?_
    refine x_icmp_ne (pc := 13) 23 dX9_cutTo_13 (by decide) (fun c2 => ?_) (fun c2 => ?_)
    · replace h := h.1 c2
      refine x_iload_n (pc := 23) 0 dX9_cutTo_23 rfl rfl ?_
      refine x_iconst (pc := 24) (2 : Int32) dX9_cutTo_24 (by decide +kernel) ?_
      refine x_icmp_ne (pc := 25) 34 dX9_cutTo_25 (by decide) (fun c3 => ?_) (fun c3 => ?_)
      · replace h := h.1 c3
        refine x_lload_n (pc := 34) 1 dX9_cutTo_34 rfl rfl ?_
        exact x_lreturn2 (pc := 35) dX9_cutTo_35 rfl h.1 h.2
      · replace h := h.2 c3
        refine x_lload_n (pc := 28) 1 dX9_cutTo_28 rfl rfl ?_
        refine x_l2i (pc := 29) dX9_cutTo_29 ?_
        refine x_i2l (pc := 30) dX9_cutTo_30 ?_
        refine x_goto (pc := 31) 35 dX9_cutTo_31 (by decide) ?_
        exact x_lreturn2 (pc := 35) dX9_cutTo_35 rfl h.1 h.2
    · replace h := h.2 c2
      refine x_lload_n (pc := 16) 1 dX9_cutTo_16 rfl rfl ?_
      refine x_l2i (pc := 17) dX9_cutTo_17 ?_
      refine x_i2s (pc := 18) dX9_cutTo_18 ?_
      refine x_i2l (pc := 19) dX9_cutTo_19 ?_
      refine x_goto (pc := 20) 35 dX9_cutTo_20 (by decide) ?_
      exact x_lreturn2 (pc := 35) dX9_cutTo_35 rfl h.1 h.2
  · replace h := h.2 c1
    refine x_lload_n (pc := 4) 1 dX9_cutTo_4 rfl rfl ?_
    refine x_l2i (pc := 5) dX9_cutTo_5 ?_
    refine x_i2b (pc := 6) dX9_cutTo_6 ?_
    refine x_i2l (pc := 7) dX9_cutTo_7 ?_
    refine x_goto (pc := 8) 35 dX9_cutTo_8 (by decide) ?_
    exact x_lreturn2 (pc := 35) dX9_cutTo_35 rfl h.1 h.2
theorem dX9_log_0 : decode cX9_log 0 = .ok (.aload_n 0, 1) := by decide +kernel
theorem dX9_log_1 : decode cX9_log 1 = .ok (.invokevirtual 110, 3) := by decide +kernel
theorem dX9_log_4 : decode cX9_log 4 = .ok (.ifCond .eq 19, 3) := by decide +kernel
theorem dX9_log_7 : decode cX9_log 7 = .ok (.iload_n 1, 1) := by decide +kernel
theorem dX9_log_8 : decode cX9_log 8 = .ok (.invokestatic 207, 3) := by decide +kernel
theorem dX9_log_11 : decode cX9_log 11 = .ok (.ifCond .eq 12, 3) := by decide +kernel
theorem dX9_log_14 : decode cX9_log 14 = .ok (.iload_n 2, 1) := by decide +kernel
theorem dX9_log_15 : decode cX9_log 15 = .ok (.iconst 0, 1) := by decide +kernel
theorem dX9_log_16 : decode cX9_log 16 = .ok (.iconst 3, 1) := by decide +kernel
theorem dX9_log_17 : decode cX9_log 17 = .ok (.invokestatic 54, 3) := by decide +kernel
theorem dX9_log_20 : decode cX9_log 20 = .ok (.ifCond .ne 5, 3) := by decide +kernel
theorem dX9_log_23 : decode cX9_log 23 = .ok (.iconst (-1), 1) := by decide +kernel
theorem dX9_log_24 : decode cX9_log 24 = .ok (.ireturn, 1) := by decide +kernel
theorem dX9_log_25 : decode cX9_log 25 = .ok (.aload_n 0, 1) := by decide +kernel
theorem dX9_log_26 : decode cX9_log 26 = .ok (.iload_n 1, 1) := by decide +kernel
theorem dX9_log_27 : decode cX9_log 27 = .ok (.iload_n 2, 1) := by decide +kernel
theorem dX9_log_28 : decode cX9_log 28 = .ok (.iload_n 3, 1) := by decide +kernel
theorem dX9_log_29 : decode cX9_log 29 = .ok (.aload_n 0, 1) := by decide +kernel
theorem dX9_log_30 : decode cX9_log 30 = .ok (.getfield 23, 3) := by decide +kernel
theorem dX9_log_33 : decode cX9_log 33 = .ok (.iconst 3, 1) := by decide +kernel
theorem dX9_log_34 : decode cX9_log 34 = .ok (.iaload, 1) := by decide +kernel
theorem dX9_log_35 : decode cX9_log 35 = .ok (.invokevirtual 212, 3) := by decide +kernel
theorem dX9_log_38 : decode cX9_log 38 = .ok (.istore 4, 2) := by decide +kernel
theorem dX9_log_40 : decode cX9_log 40 = .ok (.iload 4, 2) := by decide +kernel
theorem dX9_log_42 : decode cX9_log 42 = .ok (.ifCond .eq 6, 3) := by decide +kernel
theorem dX9_log_45 : decode cX9_log 45 = .ok (.iload 4, 2) := by decide +kernel
theorem dX9_log_47 : decode cX9_log 47 = .ok (.ireturn, 1) := by decide +kernel
theorem dX9_log_48 : decode cX9_log 48 = .ok (.aload_n 0, 1) := by decide +kernel
theorem dX9_log_49 : decode cX9_log 49 = .ok (.aload_n 0, 1) := by decide +kernel
theorem dX9_log_50 : decode cX9_log 50 = .ok (.getfield 23, 3) := by decide +kernel
theorem dX9_log_53 : decode cX9_log 53 = .ok (.invokevirtual 156, 3) := by decide +kernel
theorem dX9_log_56 : decode cX9_log 56 = .ok (.pop, 1) := by decide +kernel
theorem dX9_log_57 : decode cX9_log 57 = .ok (.iconst 0, 1) := by decide +kernel
theorem dX9_log_58 : decode cX9_log 58 = .ok (.istore 5, 2) := by decide +kernel
theorem dX9_log_60 : decode cX9_log 60 = .ok (.iload 5, 2) := by decide +kernel
theorem dX9_log_62 : decode cX9_log 62 = .ok (.aload_n 0, 1) := by decide +kernel
theorem dX9_log_63 : decode cX9_log 63 = .ok (.getfield 23, 3) := by decide +kernel
theorem dX9_log_66 : decode cX9_log 66 = .ok (.iconst 3, 1) := by decide +kernel
theorem dX9_log_67 : decode cX9_log 67 = .ok (.iaload, 1) := by decide +kernel
theorem dX9_log_68 : decode cX9_log 68 = .ok (.if_icmp .ge 35, 3) := by decide +kernel
theorem dX9_log_71 : decode cX9_log 71 = .ok (.aload_n 0, 1) := by decide +kernel
theorem dX9_log_72 : decode cX9_log 72 = .ok (.getfield 16, 3) := by decide +kernel
theorem dX9_log_75 : decode cX9_log 75 = .ok (.bipush 24, 2) := by decide +kernel
theorem dX9_log_77 : decode cX9_log 77 = .ok (.iload_n 1, 1) := by decide +kernel
theorem dX9_log_78 : decode cX9_log 78 = .ok (.imul, 1) := by decide +kernel
theorem dX9_log_79 : decode cX9_log 79 = .ok (.iload_n 3, 1) := by decide +kernel
theorem dX9_log_80 : decode cX9_log 80 = .ok (.iadd, 1) := by decide +kernel
theorem dX9_log_81 : decode cX9_log 81 = .ok (.iload 5, 2) := by decide +kernel
theorem dX9_log_83 : decode cX9_log 83 = .ok (.iadd, 1) := by decide +kernel
theorem dX9_log_84 : decode cX9_log 84 = .ok (.iload_n 2, 1) := by decide +kernel
theorem dX9_log_85 : decode cX9_log 85 = .ok (.aload_n 0, 1) := by decide +kernel
theorem dX9_log_86 : decode cX9_log 86 = .ok (.getfield 42, 3) := by decide +kernel
theorem dX9_log_89 : decode cX9_log 89 = .ok (.iload 5, 2) := by decide +kernel
theorem dX9_log_91 : decode cX9_log 91 = .ok (.iaload, 1) := by decide +kernel
theorem dX9_log_92 : decode cX9_log 92 = .ok (.i2l, 1) := by decide +kernel
theorem dX9_log_93 : decode cX9_log 93 = .ok (.invokestatic 216, 3) := by decide +kernel
theorem dX9_log_96 : decode cX9_log 96 = .ok (.lastore, 1) := by decide +kernel
theorem dX9_log_97 : decode cX9_log 97 = .ok (.iinc 5 1, 3) := by decide +kernel
theorem dX9_log_100 : decode cX9_log 100 = .ok (.goto (-40), 3) := by decide +kernel
theorem dX9_log_103 : decode cX9_log 103 = .ok (.aload_n 0, 1) := by decide +kernel
theorem dX9_log_104 : decode cX9_log 104 = .ok (.getfield 23, 3) := by decide +kernel
theorem dX9_log_107 : decode cX9_log 107 = .ok (.iconst 3, 1) := by decide +kernel
theorem dX9_log_108 : decode cX9_log 108 = .ok (.iaload, 1) := by decide +kernel
theorem dX9_log_109 : decode cX9_log 109 = .ok (.ireturn, 1) := by decide +kernel
def R_X9_log (a1 : Int32) (a2 : Int32) (a3 : Int32) (σ : kS) (x : Int32) (τ : kS) : Prop := Run SM jX9_log [(.ref 0), (.int a1), (.int a2), (.int a3)] σ (some (.int x)) τ
def E_X9_log_60 (l1 : Int32) (l2 : Int32) (l3 : Int32) (l5 : Int32) (σ : kS) (x : Int32) (τ : kS) : Prop := Ex SM jX9_log 60 [some (.ref 0), some (.int l1), some (.int l2), some (.int l3), none, some (.int l5)] [] σ (some (.int x)) τ
set_option maxRecDepth 20000 in
theorem t_X9_log {a1 : Int32} {a2 : Int32} {a3 : Int32} {σ : kS} {x : Int32} {τ : kS}  (h : (¬ (0 < (σ.1 5 1)) → x = (-1 : Int32) ∧ τ = σ) ∧ ((0 < (σ.1 5 1)) → (¬ (iv a1 0 3) → x = (-1 : Int32) ∧ τ = σ) ∧ ((iv a1 0 3) → ((iv a2 (0 : Int32) (3 : Int32)) → ∃ (x5 : Int32) (s4 : kS), R_X9_badRow a1 a2 a3 (σ.1 5 3) σ x5 s4 ∧ ((x5 = 0 → ∃ (x8 : Int32) (s7 : kS), R_X9_singAll 5 s4 x8 s7 ∧ (E_X9_log_60 a1 a2 a3 (0 : Int32) s7 x τ)) ∧ (¬ x5 = 0 → x = x5 ∧ τ = s4))) ∧ (¬ (iv a2 (0 : Int32) (3 : Int32)) → x = (-1 : Int32) ∧ τ = σ)))) : R_X9_log a1 a2 a3 σ x τ := by
  refine x_run [some (.ref 0), some (.int a1), some (.int a2), some (.int a3), none, none] (by decide +kernel) rfl (Nat.le_of_ble_eq_true rfl) ?_
  refine x_aload_n (pc := 0) 0 dX9_log_0 rfl rfl ?_
  refine x_callV (pc := 1) [] [] dX9_log_1 ⟨⟨hX9_isThere.1, hX9_isThere.2.1, hX9_isThere.2.2, by decide⟩, mX9_110, vX9_isThere.1, vX9_isThere.2⟩ (ci := 9) rfl rfl rfl rfl (Nat.le_of_ble_eq_true rfl) (i_X9_isThere) ?_
  refine x_bif_eq (pc := 4) 23 dX9_log_4 (by decide) (fun c1 => ?_) (fun c1 => ?_)
  · replace h := h.1 c1
    refine x_iconst (pc := 23) (-1 : Int32) dX9_log_23 (by decide +kernel) ?_
    exact x_ireturn2 (pc := 24) dX9_log_24 rfl h.1 h.2
  · replace h := h.2 c1
    refine x_iload_n (pc := 7) 1 dX9_log_7 rfl rfl ?_
    refine x_callS (pc := 8) [(.int a1)] [] dX9_log_8 ⟨⟨hX9_isSheet.1, hX9_isSheet.2.1, hX9_isSheet.2.2, by decide⟩, mX9_207, sX9_isSheet⟩ rfl rfl (Nat.le_of_ble_eq_true rfl) (i_X9_isSheet) ?_
    refine x_bif_eq (pc := 11) 23 dX9_log_11 (by decide) (fun c2 => ?_) (fun c2 => ?_)
    · replace h := h.1 c2
      refine x_iconst (pc := 23) (-1 : Int32) dX9_log_23 (by decide +kernel) ?_
      exact x_ireturn2 (pc := 24) dX9_log_24 rfl h.1 h.2
    · replace h := h.2 c2
      refine x_iload_n (pc := 14) 2 dX9_log_14 rfl rfl ?_
      refine x_iconst (pc := 15) (0 : Int32) dX9_log_15 (by decide +kernel) ?_
      refine x_iconst (pc := 16) (3 : Int32) dX9_log_16 (by decide +kernel) ?_
      refine x_callS (pc := 17) [(.int a2), (.int (0 : Int32)), (.int (3 : Int32))] [] dX9_log_17 ⟨⟨hX9_in.1, hX9_in.2.1, hX9_in.2.2, by decide⟩, mX9_54, sX9_in⟩ rfl rfl (Nat.le_of_ble_eq_true rfl) (i_X9_in) ?_
      refine x_bif_ne (pc := 20) 25 dX9_log_20 (by decide) (fun c3 => ?_) (fun c3 => ?_)
      · replace h := h.1 c3
        refine x_aload_n (pc := 25) 0 dX9_log_25 rfl rfl ?_
        refine x_iload_n (pc := 26) 1 dX9_log_26 rfl rfl ?_
        refine x_iload_n (pc := 27) 2 dX9_log_27 rfl rfl ?_
        refine x_iload_n (pc := 28) 3 dX9_log_28 rfl rfl ?_
        refine x_aload_n (pc := 29) 0 dX9_log_29 rfl rfl ?_
        refine x_getR (pc := 30) dX9_log_30 fX9_23 rfl rfl ?_
        refine x_iconst (pc := 33) (3 : Int32) dX9_log_33 (by decide +kernel) ?_
        refine x_ialoadK (pc := 34) (n := 38) 3 dX9_log_34 rfl (by decide) (by decide +kernel) ?_
        obtain ⟨x5, s4, hr, h⟩ := h
        refine x_callV (pc := 35) [(.int a1), (.int a2), (.int a3), (.int (σ.1 5 3))] [] dX9_log_35 ⟨⟨hX9_badRow.1, hX9_badRow.2.1, hX9_badRow.2.2, by decide⟩, mX9_212, vX9_badRow.1, vX9_badRow.2⟩ (ci := 9) rfl rfl rfl rfl (Nat.le_of_ble_eq_true rfl) hr ?_
        refine x_istore (pc := 38) dX9_log_38 (by decide) rfl ?_
        refine x_iload (pc := 40) dX9_log_40 rfl ?_
        refine x_if_eq (pc := 42) 48 dX9_log_42 (by decide) (fun c6 => ?_) (fun c6 => ?_)
        · replace h := h.1 c6
          refine x_aload_n (pc := 48) 0 dX9_log_48 rfl rfl ?_
          refine x_aload_n (pc := 49) 0 dX9_log_49 rfl rfl ?_
          refine x_getR (pc := 50) dX9_log_50 fX9_23 rfl rfl ?_
          obtain ⟨x8, s7, hr, h⟩ := h
          refine x_callV (pc := 53) [(.ref 5)] [] dX9_log_53 ⟨⟨hX9_singAll.1, hX9_singAll.2.1, hX9_singAll.2.2, by decide⟩, mX9_156, vX9_singAll.1, vX9_singAll.2⟩ (ci := 9) rfl rfl rfl rfl (Nat.le_of_ble_eq_true rfl) hr ?_
          refine x_pop (pc := 56) dX9_log_56 rfl ?_
          refine x_iconst (pc := 57) (0 : Int32) dX9_log_57 (by decide +kernel) ?_
          refine x_istore (pc := 58) dX9_log_58 (by decide) rfl ?_
          exact x_mask [true, true, true, true, false, true] h
        · replace h := h.2 c6
          refine x_iload (pc := 45) dX9_log_45 rfl ?_
          exact x_ireturn2 (pc := 47) dX9_log_47 rfl h.1 h.2
      · replace h := h.2 c3
        refine x_iconst (pc := 23) (-1 : Int32) dX9_log_23 (by decide +kernel) ?_
        exact x_ireturn2 (pc := 24) dX9_log_24 rfl h.1 h.2
set_option maxRecDepth 20000 in
theorem t_X9_log_60 {l1 : Int32} {l2 : Int32} {l3 : Int32} {l5 : Int32} {σ : kS} {x : Int32} {τ : kS}  (h : ((σ.1 5 3) ≤ l5 → x = (σ.1 5 3) ∧ τ = σ) ∧ (¬ (σ.1 5 3) ≤ l5 → vp_in l5 5 ∧ (∃ (x4 : Int64) (s3 : kS), R_X9_cutTo l2 (σ.1 11 l5.toNatClampNeg).toInt64 σ x4 s3 ∧ (vp_in ((((24 : Int32) * l1) + l3) + l5) 96 ∧ (E_X9_log_60 l1 l2 l3 (l5 + (1 : Int32)) (k_sl s3 3 ((((24 : Int32) * l1) + l3) + l5).toNatClampNeg x4) x τ))))) : E_X9_log_60 l1 l2 l3 l5 σ x τ := by
  unfold E_X9_log_60
  refine x_iload (pc := 60) dX9_log_60 rfl ?_
  refine x_aload_n (pc := 62) 0 dX9_log_62 rfl rfl ?_
  refine x_getR (pc := 63) dX9_log_63 fX9_23 rfl rfl ?_
  refine x_iconst (pc := 66) (3 : Int32) dX9_log_66 (by decide +kernel) ?_
  refine x_ialoadK (pc := 67) (n := 38) 3 dX9_log_67 rfl (by decide) (by decide +kernel) ?_
  refine x_icmp_ge (pc := 68) 103 dX9_log_68 (by decide) (fun c1 => ?_) (fun c1 => ?_)
  · replace h := h.1 c1
    refine x_aload_n (pc := 103) 0 dX9_log_103 rfl rfl ?_
    refine x_getR (pc := 104) dX9_log_104 fX9_23 rfl rfl ?_
    refine x_iconst (pc := 107) (3 : Int32) dX9_log_107 (by decide +kernel) ?_
    refine x_ialoadK (pc := 108) (n := 38) 3 dX9_log_108 rfl (by decide) (by decide +kernel) ?_
    exact x_ireturn2 (pc := 109) dX9_log_109 rfl h.1 h.2
  · replace h := h.2 c1
    refine x_aload_n (pc := 71) 0 dX9_log_71 rfl rfl ?_
    refine x_getR (pc := 72) dX9_log_72 fX9_16 rfl rfl ?_
    refine x_bipush (pc := 75) (24 : Int32) dX9_log_75 (by decide +kernel) ?_
    refine x_iload_n (pc := 77) 1 dX9_log_77 rfl rfl ?_
    refine x_imul (pc := 78) dX9_log_78 ?_
    refine x_iload_n (pc := 79) 3 dX9_log_79 rfl rfl ?_
    refine x_iadd (pc := 80) dX9_log_80 ?_
    refine x_iload (pc := 81) dX9_log_81 rfl ?_
    refine x_iadd (pc := 83) dX9_log_83 ?_
    refine x_iload_n (pc := 84) 2 dX9_log_84 rfl rfl ?_
    refine x_aload_n (pc := 85) 0 dX9_log_85 rfl rfl ?_
    refine x_getR (pc := 86) dX9_log_86 fX9_42 rfl rfl ?_
    refine x_iload (pc := 89) dX9_log_89 rfl ?_
    obtain ⟨g2, h⟩ := h
    refine x_iaload (pc := 91) (n := 5) dX9_log_91 rfl g2 ?_
    refine x_i2l (pc := 92) dX9_log_92 ?_
    obtain ⟨x4, s3, hr, h⟩ := h
    refine x_callS (pc := 93) [(.int l2), (.long (σ.1 11 l5.toNatClampNeg).toInt64)] [(.int ((((24 : Int32) * l1) + l3) + l5)), (.ref 3)] dX9_log_93 ⟨⟨hX9_cutTo.1, hX9_cutTo.2.1, hX9_cutTo.2.2, by decide⟩, mX9_216, sX9_cutTo⟩ rfl rfl (Nat.le_of_ble_eq_true rfl) hr ?_
    obtain ⟨g5, h⟩ := h
    refine x_lastore (pc := 96) (n := 96) dX9_log_96 rfl g5 ?_
    refine x_iinc (pc := 97) (1 : Int32) dX9_log_97 (by decide) rfl rfl (by decide +kernel) ?_
    refine x_goto (pc := 100) 60 dX9_log_100 (by decide) ?_
    exact h
theorem dX9_areBelow_0 : decode cX9_areBelow 0 = .ok (.iconst 1, 1) := by decide +kernel
theorem dX9_areBelow_1 : decode cX9_areBelow 1 = .ok (.istore 5, 2) := by decide +kernel
theorem dX9_areBelow_3 : decode cX9_areBelow 3 = .ok (.iconst 0, 1) := by decide +kernel
theorem dX9_areBelow_4 : decode cX9_areBelow 4 = .ok (.istore 6, 2) := by decide +kernel
theorem dX9_areBelow_6 : decode cX9_areBelow 6 = .ok (.iload 6, 2) := by decide +kernel
theorem dX9_areBelow_8 : decode cX9_areBelow 8 = .ok (.iload_n 2, 1) := by decide +kernel
theorem dX9_areBelow_9 : decode cX9_areBelow 9 = .ok (.if_icmp .ge 80, 3) := by decide +kernel
theorem dX9_areBelow_12 : decode cX9_areBelow 12 = .ok (.aload_n 0, 1) := by decide +kernel
theorem dX9_areBelow_13 : decode cX9_areBelow 13 = .ok (.getfield 16, 3) := by decide +kernel
theorem dX9_areBelow_16 : decode cX9_areBelow 16 = .ok (.iload_n 1, 1) := by decide +kernel
theorem dX9_areBelow_17 : decode cX9_areBelow 17 = .ok (.iconst 2, 1) := by decide +kernel
theorem dX9_areBelow_18 : decode cX9_areBelow 18 = .ok (.iload 6, 2) := by decide +kernel
theorem dX9_areBelow_20 : decode cX9_areBelow 20 = .ok (.imul, 1) := by decide +kernel
theorem dX9_areBelow_21 : decode cX9_areBelow 21 = .ok (.iadd, 1) := by decide +kernel
theorem dX9_areBelow_22 : decode cX9_areBelow 22 = .ok (.laload, 1) := by decide +kernel
theorem dX9_areBelow_23 : decode cX9_areBelow 23 = .ok (.lstore 7, 2) := by decide +kernel
theorem dX9_areBelow_25 : decode cX9_areBelow 25 = .ok (.aload_n 0, 1) := by decide +kernel
theorem dX9_areBelow_26 : decode cX9_areBelow 26 = .ok (.getfield 16, 3) := by decide +kernel
theorem dX9_areBelow_29 : decode cX9_areBelow 29 = .ok (.iload_n 1, 1) := by decide +kernel
theorem dX9_areBelow_30 : decode cX9_areBelow 30 = .ok (.iconst 2, 1) := by decide +kernel
theorem dX9_areBelow_31 : decode cX9_areBelow 31 = .ok (.iload 6, 2) := by decide +kernel
theorem dX9_areBelow_33 : decode cX9_areBelow 33 = .ok (.imul, 1) := by decide +kernel
theorem dX9_areBelow_34 : decode cX9_areBelow 34 = .ok (.iadd, 1) := by decide +kernel
theorem dX9_areBelow_35 : decode cX9_areBelow 35 = .ok (.iconst 1, 1) := by decide +kernel
theorem dX9_areBelow_36 : decode cX9_areBelow 36 = .ok (.iadd, 1) := by decide +kernel
theorem dX9_areBelow_37 : decode cX9_areBelow 37 = .ok (.laload, 1) := by decide +kernel
theorem dX9_areBelow_38 : decode cX9_areBelow 38 = .ok (.lstore 9, 2) := by decide +kernel
theorem dX9_areBelow_40 : decode cX9_areBelow 40 = .ok (.iload 5, 2) := by decide +kernel
theorem dX9_areBelow_42 : decode cX9_areBelow 42 = .ok (.ifCond .eq 38, 3) := by decide +kernel
theorem dX9_areBelow_45 : decode cX9_areBelow 45 = .ok (.lload 7, 2) := by decide +kernel
theorem dX9_areBelow_47 : decode cX9_areBelow 47 = .ok (.lconst 0, 1) := by decide +kernel
theorem dX9_areBelow_48 : decode cX9_areBelow 48 = .ok (.lcmp, 1) := by decide +kernel
theorem dX9_areBelow_49 : decode cX9_areBelow 49 = .ok (.ifCond .lt 31, 3) := by decide +kernel
theorem dX9_areBelow_52 : decode cX9_areBelow 52 = .ok (.lload 7, 2) := by decide +kernel
theorem dX9_areBelow_54 : decode cX9_areBelow 54 = .ok (.iload_n 3, 1) := by decide +kernel
theorem dX9_areBelow_55 : decode cX9_areBelow 55 = .ok (.i2l, 1) := by decide +kernel
theorem dX9_areBelow_56 : decode cX9_areBelow 56 = .ok (.lcmp, 1) := by decide +kernel
theorem dX9_areBelow_57 : decode cX9_areBelow 57 = .ok (.ifCond .ge 23, 3) := by decide +kernel
theorem dX9_areBelow_60 : decode cX9_areBelow 60 = .ok (.lload 9, 2) := by decide +kernel
theorem dX9_areBelow_62 : decode cX9_areBelow 62 = .ok (.lconst 0, 1) := by decide +kernel
theorem dX9_areBelow_63 : decode cX9_areBelow 63 = .ok (.lcmp, 1) := by decide +kernel
theorem dX9_areBelow_64 : decode cX9_areBelow 64 = .ok (.ifCond .lt 16, 3) := by decide +kernel
theorem dX9_areBelow_67 : decode cX9_areBelow 67 = .ok (.lload 9, 2) := by decide +kernel
theorem dX9_areBelow_69 : decode cX9_areBelow 69 = .ok (.iload 4, 2) := by decide +kernel
theorem dX9_areBelow_71 : decode cX9_areBelow 71 = .ok (.i2l, 1) := by decide +kernel
theorem dX9_areBelow_72 : decode cX9_areBelow 72 = .ok (.lcmp, 1) := by decide +kernel
theorem dX9_areBelow_73 : decode cX9_areBelow 73 = .ok (.ifCond .ge 7, 3) := by decide +kernel
theorem dX9_areBelow_76 : decode cX9_areBelow 76 = .ok (.iconst 1, 1) := by decide +kernel
theorem dX9_areBelow_77 : decode cX9_areBelow 77 = .ok (.goto 4, 3) := by decide +kernel
theorem dX9_areBelow_80 : decode cX9_areBelow 80 = .ok (.iconst 0, 1) := by decide +kernel
theorem dX9_areBelow_81 : decode cX9_areBelow 81 = .ok (.istore 5, 2) := by decide +kernel
theorem dX9_areBelow_83 : decode cX9_areBelow 83 = .ok (.iinc 6 1, 3) := by decide +kernel
theorem dX9_areBelow_86 : decode cX9_areBelow 86 = .ok (.goto (-80), 3) := by decide +kernel
theorem dX9_areBelow_89 : decode cX9_areBelow 89 = .ok (.iload 5, 2) := by decide +kernel
theorem dX9_areBelow_91 : decode cX9_areBelow 91 = .ok (.ireturn, 1) := by decide +kernel
def R_X9_areBelow (a1 : Int32) (a2 : Int32) (a3 : Int32) (a4 : Int32) (σ : kS) (x : Int32) (τ : kS) : Prop := Run SM jX9_areBelow [(.ref 0), (.int a1), (.int a2), (.int a3), (.int a4)] σ (some (.int x)) τ
def E_X9_areBelow_6 (l1 : Int32) (l2 : Int32) (l3 : Int32) (l4 : Int32) (l5 : Int32) (l6 : Int32) (σ : kS) (x : Int32) (τ : kS) : Prop := Ex SM jX9_areBelow 6 [some (.ref 0), some (.int l1), some (.int l2), some (.int l3), some (.int l4), some (.int l5), some (.int l6), none, none, none, none] [] σ (some (.int x)) τ
set_option maxRecDepth 20000 in
theorem t_X9_areBelow {a1 : Int32} {a2 : Int32} {a3 : Int32} {a4 : Int32} {σ : kS} {x : Int32} {τ : kS}  (h : E_X9_areBelow_6 a1 a2 a3 a4 (1 : Int32) (0 : Int32) σ x τ) : R_X9_areBelow a1 a2 a3 a4 σ x τ := by
  refine x_run [some (.ref 0), some (.int a1), some (.int a2), some (.int a3), some (.int a4), none, none, none, none, none, none] (by decide +kernel) rfl (Nat.le_of_ble_eq_true rfl) ?_
  refine x_iconst (pc := 0) (1 : Int32) dX9_areBelow_0 (by decide +kernel) ?_
  refine x_istore (pc := 1) dX9_areBelow_1 (by decide) rfl ?_
  refine x_iconst (pc := 3) (0 : Int32) dX9_areBelow_3 (by decide +kernel) ?_
  refine x_istore (pc := 4) dX9_areBelow_4 (by decide) rfl ?_
  exact h
set_option maxRecDepth 20000 in
theorem t_X9_areBelow_6 {l1 : Int32} {l2 : Int32} {l3 : Int32} {l4 : Int32} {l5 : Int32} {l6 : Int32} {σ : kS} {x : Int32} {τ : kS}  (h : (l2 ≤ l6 → k_z l5 ∧ x = l5 ∧ τ = σ) ∧ (¬ l2 ≤ l6 → vp_in (l1 + ((2 : Int32) * l6)) 96 ∧ (vp_in ((l1 + ((2 : Int32) * l6)) + (1 : Int32)) 96 ∧ ((l5 = 0 → E_X9_areBelow_6 l1 l2 l3 l4 (0 : Int32) (l6 + (1 : Int32)) σ x τ) ∧ (¬ l5 = 0 → ((lg_cmp (σ.2 3 (l1 + ((2 : Int32) * l6)).toNatClampNeg) (0 : Int64)) < 0 → E_X9_areBelow_6 l1 l2 l3 l4 (0 : Int32) (l6 + (1 : Int32)) σ x τ) ∧ (¬ (lg_cmp (σ.2 3 (l1 + ((2 : Int32) * l6)).toNatClampNeg) (0 : Int64)) < 0 → (0 ≤ (lg_cmp (σ.2 3 (l1 + ((2 : Int32) * l6)).toNatClampNeg) l3.toInt64) → E_X9_areBelow_6 l1 l2 l3 l4 (0 : Int32) (l6 + (1 : Int32)) σ x τ) ∧ (¬ 0 ≤ (lg_cmp (σ.2 3 (l1 + ((2 : Int32) * l6)).toNatClampNeg) l3.toInt64) → ((lg_cmp (σ.2 3 ((l1 + ((2 : Int32) * l6)) + (1 : Int32)).toNatClampNeg) (0 : Int64)) < 0 → E_X9_areBelow_6 l1 l2 l3 l4 (0 : Int32) (l6 + (1 : Int32)) σ x τ) ∧ (¬ (lg_cmp (σ.2 3 ((l1 + ((2 : Int32) * l6)) + (1 : Int32)).toNatClampNeg) (0 : Int64)) < 0 → (0 ≤ (lg_cmp (σ.2 3 ((l1 + ((2 : Int32) * l6)) + (1 : Int32)).toNatClampNeg) l4.toInt64) → E_X9_areBelow_6 l1 l2 l3 l4 (0 : Int32) (l6 + (1 : Int32)) σ x τ) ∧ (¬ 0 ≤ (lg_cmp (σ.2 3 ((l1 + ((2 : Int32) * l6)) + (1 : Int32)).toNatClampNeg) l4.toInt64) → E_X9_areBelow_6 l1 l2 l3 l4 (1 : Int32) (l6 + (1 : Int32)) σ x τ))))))))) : E_X9_areBelow_6 l1 l2 l3 l4 l5 l6 σ x τ := by
  unfold E_X9_areBelow_6
  refine x_iload (pc := 6) dX9_areBelow_6 rfl ?_
  refine x_iload_n (pc := 8) 2 dX9_areBelow_8 rfl rfl ?_
  refine x_icmp_ge (pc := 9) 89 dX9_areBelow_9 (by decide) (fun c1 => ?_) (fun c1 => ?_)
  · replace h := h.1 c1
    refine x_iload (pc := 89) dX9_areBelow_89 rfl ?_
    exact x_zreturn2 (pc := 91) dX9_areBelow_91 rfl h.1 h.2.1 h.2.2
  · replace h := h.2 c1
    refine x_aload_n (pc := 12) 0 dX9_areBelow_12 rfl rfl ?_
    refine x_getR (pc := 13) dX9_areBelow_13 fX9_16 rfl rfl ?_
    refine x_iload_n (pc := 16) 1 dX9_areBelow_16 rfl rfl ?_
    refine x_iconst (pc := 17) (2 : Int32) dX9_areBelow_17 (by decide +kernel) ?_
    refine x_iload (pc := 18) dX9_areBelow_18 rfl ?_
    refine x_imul (pc := 20) dX9_areBelow_20 ?_
    refine x_iadd (pc := 21) dX9_areBelow_21 ?_
    obtain ⟨g2, h⟩ := h
    refine x_laload (pc := 22) (n := 96) dX9_areBelow_22 rfl g2 ?_
    refine x_lstore (pc := 23) dX9_areBelow_23 (by decide) rfl ?_
    refine x_aload_n (pc := 25) 0 dX9_areBelow_25 rfl rfl ?_
    refine x_getR (pc := 26) dX9_areBelow_26 fX9_16 rfl rfl ?_
    refine x_iload_n (pc := 29) 1 dX9_areBelow_29 rfl rfl ?_
    refine x_iconst (pc := 30) (2 : Int32) dX9_areBelow_30 (by decide +kernel) ?_
    refine x_iload (pc := 31) dX9_areBelow_31 rfl ?_
    refine x_imul (pc := 33) dX9_areBelow_33 ?_
    refine x_iadd (pc := 34) dX9_areBelow_34 ?_
    refine x_iconst (pc := 35) (1 : Int32) dX9_areBelow_35 (by decide +kernel) ?_
    refine x_iadd (pc := 36) dX9_areBelow_36 ?_
    obtain ⟨g3, h⟩ := h
    refine x_laload (pc := 37) (n := 96) dX9_areBelow_37 rfl g3 ?_
    refine x_lstore (pc := 38) dX9_areBelow_38 (by decide) rfl ?_
    refine x_iload (pc := 40) dX9_areBelow_40 rfl ?_
    refine x_if_eq (pc := 42) 80 dX9_areBelow_42 (by decide) (fun c4 => ?_) (fun c4 => ?_)
    · replace h := h.1 c4
      refine x_iconst (pc := 80) (0 : Int32) dX9_areBelow_80 (by decide +kernel) ?_
      refine x_istore (pc := 81) dX9_areBelow_81 (by decide) rfl ?_
      refine x_iinc (pc := 83) (1 : Int32) dX9_areBelow_83 (by decide) rfl rfl (by decide +kernel) ?_
      refine x_goto (pc := 86) 6 dX9_areBelow_86 (by decide) ?_
      exact x_mask [true, true, true, true, true, true, true, false, false, false, false] h
    · replace h := h.2 c4
      refine x_lload (pc := 45) dX9_areBelow_45 rfl ?_
      refine x_lconst (pc := 47) (0 : Int64) dX9_areBelow_47 (by decide +kernel) ?_
      refine x_lcmp (pc := 48) dX9_areBelow_48 ?_
      refine x_if_lt (pc := 49) 80 dX9_areBelow_49 (by decide) (fun c5 => ?_) (fun c5 => ?_)
      · replace h := h.1 c5
        refine x_iconst (pc := 80) (0 : Int32) dX9_areBelow_80 (by decide +kernel) ?_
        refine x_istore (pc := 81) dX9_areBelow_81 (by decide) rfl ?_
        refine x_iinc (pc := 83) (1 : Int32) dX9_areBelow_83 (by decide) rfl rfl (by decide +kernel) ?_
        refine x_goto (pc := 86) 6 dX9_areBelow_86 (by decide) ?_
        exact x_mask [true, true, true, true, true, true, true, false, false, false, false] h
      · replace h := h.2 c5
        refine x_lload (pc := 52) dX9_areBelow_52 rfl ?_
        refine x_iload_n (pc := 54) 3 dX9_areBelow_54 rfl rfl ?_
        refine x_i2l (pc := 55) dX9_areBelow_55 ?_
        refine x_lcmp (pc := 56) dX9_areBelow_56 ?_
        refine x_if_ge (pc := 57) 80 dX9_areBelow_57 (by decide) (fun c6 => ?_) (fun c6 => ?_)
        · replace h := h.1 c6
          refine x_iconst (pc := 80) (0 : Int32) dX9_areBelow_80 (by decide +kernel) ?_
          refine x_istore (pc := 81) dX9_areBelow_81 (by decide) rfl ?_
          refine x_iinc (pc := 83) (1 : Int32) dX9_areBelow_83 (by decide) rfl rfl (by decide +kernel) ?_
          refine x_goto (pc := 86) 6 dX9_areBelow_86 (by decide) ?_
          exact x_mask [true, true, true, true, true, true, true, false, false, false, false] h
        · replace h := h.2 c6
          refine x_lload (pc := 60) dX9_areBelow_60 rfl ?_
          refine x_lconst (pc := 62) (0 : Int64) dX9_areBelow_62 (by decide +kernel) ?_
          refine x_lcmp (pc := 63) dX9_areBelow_63 ?_
          refine x_if_lt (pc := 64) 80 dX9_areBelow_64 (by decide) (fun c7 => ?_) (fun c7 => ?_)
          · replace h := h.1 c7
            refine x_iconst (pc := 80) (0 : Int32) dX9_areBelow_80 (by decide +kernel) ?_
            refine x_istore (pc := 81) dX9_areBelow_81 (by decide) rfl ?_
            refine x_iinc (pc := 83) (1 : Int32) dX9_areBelow_83 (by decide) rfl rfl (by decide +kernel) ?_
            refine x_goto (pc := 86) 6 dX9_areBelow_86 (by decide) ?_
            exact x_mask [true, true, true, true, true, true, true, false, false, false, false] h
          · replace h := h.2 c7
            refine x_lload (pc := 67) dX9_areBelow_67 rfl ?_
            refine x_iload (pc := 69) dX9_areBelow_69 rfl ?_
            refine x_i2l (pc := 71) dX9_areBelow_71 ?_
            refine x_lcmp (pc := 72) dX9_areBelow_72 ?_
            refine x_if_ge (pc := 73) 80 dX9_areBelow_73 (by decide) (fun c8 => ?_) (fun c8 => ?_)
            · replace h := h.1 c8
              refine x_iconst (pc := 80) (0 : Int32) dX9_areBelow_80 (by decide +kernel) ?_
              refine x_istore (pc := 81) dX9_areBelow_81 (by decide) rfl ?_
              refine x_iinc (pc := 83) (1 : Int32) dX9_areBelow_83 (by decide) rfl rfl (by decide +kernel) ?_
              refine x_goto (pc := 86) 6 dX9_areBelow_86 (by decide) ?_
              exact x_mask [true, true, true, true, true, true, true, false, false, false, false] h
            · replace h := h.2 c8
              refine x_iconst (pc := 76) (1 : Int32) dX9_areBelow_76 (by decide +kernel) ?_
              refine x_goto (pc := 77) 81 dX9_areBelow_77 (by decide) ?_
              refine x_istore (pc := 81) dX9_areBelow_81 (by decide) rfl ?_
              refine x_iinc (pc := 83) (1 : Int32) dX9_areBelow_83 (by decide) rfl rfl (by decide +kernel) ?_
              refine x_goto (pc := 86) 6 dX9_areBelow_86 (by decide) ?_
              exact x_mask [true, true, true, true, true, true, true, false, false, false, false] h
theorem dX9_aloneSings_0 : decode cX9_aloneSings 0 = .ok (.iload 4, 2) := by decide +kernel
theorem dX9_aloneSings_2 : decode cX9_aloneSings 2 = .ok (.ifCond .ge 8, 3) := by decide +kernel
theorem dX9_aloneSings_5 : decode cX9_aloneSings 5 = .ok (.bipush 12, 2) := by decide +kernel
theorem dX9_aloneSings_7 : decode cX9_aloneSings 7 = .ok (.goto 31, 3) := by decide +kernel
theorem dX9_aloneSings_10 : decode cX9_aloneSings 10 = .ok (.iload_n 2, 1) := by decide +kernel
theorem dX9_aloneSings_11 : decode cX9_aloneSings 11 = .ok (.aload_n 0, 1) := by decide +kernel
theorem dX9_aloneSings_12 : decode cX9_aloneSings 12 = .ok (.getfield 23, 3) := by decide +kernel
theorem dX9_aloneSings_15 : decode cX9_aloneSings 15 = .ok (.iload_n 3, 1) := by decide +kernel
theorem dX9_aloneSings_16 : decode cX9_aloneSings 16 = .ok (.iload 4, 2) := by decide +kernel
theorem dX9_aloneSings_18 : decode cX9_aloneSings 18 = .ok (.invokestatic 117, 3) := by decide +kernel
theorem dX9_aloneSings_21 : decode cX9_aloneSings 21 = .ok (.aload_n 0, 1) := by decide +kernel
theorem dX9_aloneSings_22 : decode cX9_aloneSings 22 = .ok (.getfield 23, 3) := by decide +kernel
theorem dX9_aloneSings_25 : decode cX9_aloneSings 25 = .ok (.iload_n 1, 1) := by decide +kernel
theorem dX9_aloneSings_26 : decode cX9_aloneSings 26 = .ok (.invokestatic 143, 3) := by decide +kernel
theorem dX9_aloneSings_29 : decode cX9_aloneSings 29 = .ok (.iand, 1) := by decide +kernel
theorem dX9_aloneSings_30 : decode cX9_aloneSings 30 = .ok (.iload 4, 2) := by decide +kernel
theorem dX9_aloneSings_32 : decode cX9_aloneSings 32 = .ok (.bipush 12, 2) := by decide +kernel
theorem dX9_aloneSings_34 : decode cX9_aloneSings 34 = .ok (.irem, 1) := by decide +kernel
theorem dX9_aloneSings_35 : decode cX9_aloneSings 35 = .ok (.invokestatic 146, 3) := by decide +kernel
theorem dX9_aloneSings_38 : decode cX9_aloneSings 38 = .ok (.ireturn, 1) := by decide +kernel
def R_X9_aloneSings (a1 : Int32) (a2 : Int32) (a3 : Int32) (a4 : Int32) (σ : kS) (x : Int32) (τ : kS) : Prop := Run SM jX9_aloneSings [(.ref 0), (.int a1), (.int a2), (.int a3), (.int a4)] σ (some (.int x)) τ
set_option maxRecDepth 20000 in
theorem t_X9_aloneSings {a1 : Int32} {a2 : Int32} {a3 : Int32} {a4 : Int32} {σ : kS} {x : Int32} {τ : kS}  (h : (0 ≤ a4 → ∃ (x3 : Int32) (s2 : kS), R_X9_missingBy 5 a3 a4 σ x3 s2 ∧ (∃ (x5 : Int32) (s4 : kS), R_X9_rangeOf 5 a1 s2 x5 s4 ∧ (∃ (x7 : Int32) (s6 : kS), R_X9_singsOf a2 (x3 &&& x5) (a4 - a4 / (12 : Int32) * (12 : Int32)) s4 x7 s6 ∧ (x = x7 ∧ τ = s6)))) ∧ (¬ 0 ≤ a4 → x = (12 : Int32) ∧ τ = σ)) : R_X9_aloneSings a1 a2 a3 a4 σ x τ := by
  refine x_run [some (.ref 0), some (.int a1), some (.int a2), some (.int a3), some (.int a4)] (by decide +kernel) rfl (Nat.le_of_ble_eq_true rfl) ?_
  refine x_iload (pc := 0) dX9_aloneSings_0 rfl ?_
  refine x_if_ge (pc := 2) 10 dX9_aloneSings_2 (by decide) (fun c1 => ?_) (fun c1 => ?_)
  · replace h := h.1 c1
    refine x_iload_n (pc := 10) 2 dX9_aloneSings_10 rfl rfl ?_
    refine x_aload_n (pc := 11) 0 dX9_aloneSings_11 rfl rfl ?_
    refine x_getR (pc := 12) dX9_aloneSings_12 fX9_23 rfl rfl ?_
    refine x_iload_n (pc := 15) 3 dX9_aloneSings_15 rfl rfl ?_
    refine x_iload (pc := 16) dX9_aloneSings_16 rfl ?_
    obtain ⟨x3, s2, hr, h⟩ := h
    refine x_callS (pc := 18) [(.ref 5), (.int a3), (.int a4)] [(.int a2)] dX9_aloneSings_18 ⟨⟨hX9_missingBy.1, hX9_missingBy.2.1, hX9_missingBy.2.2, by decide⟩, mX9_117, sX9_missingBy⟩ rfl rfl (Nat.le_of_ble_eq_true rfl) hr ?_
    refine x_aload_n (pc := 21) 0 dX9_aloneSings_21 rfl rfl ?_
    refine x_getR (pc := 22) dX9_aloneSings_22 fX9_23 rfl rfl ?_
    refine x_iload_n (pc := 25) 1 dX9_aloneSings_25 rfl rfl ?_
    obtain ⟨x5, s4, hr, h⟩ := h
    refine x_callS (pc := 26) [(.ref 5), (.int a1)] [(.int x3), (.int a2)] dX9_aloneSings_26 ⟨⟨hX9_rangeOf.1, hX9_rangeOf.2.1, hX9_rangeOf.2.2, by decide⟩, mX9_143, sX9_rangeOf⟩ rfl rfl (Nat.le_of_ble_eq_true rfl) hr ?_
    refine x_iand (pc := 29) dX9_aloneSings_29 ?_
    refine x_iload (pc := 30) dX9_aloneSings_30 rfl ?_
    refine x_bipush (pc := 32) (12 : Int32) dX9_aloneSings_32 (by decide +kernel) ?_
    refine x_irem (pc := 34) dX9_aloneSings_34 (by decide) ?_
    obtain ⟨x7, s6, hr, h⟩ := h
    refine x_callS (pc := 35) [(.int a2), (.int (x3 &&& x5)), (.int (a4 - a4 / (12 : Int32) * (12 : Int32)))] [] dX9_aloneSings_35 ⟨⟨hX9_singsOf.1, hX9_singsOf.2.1, hX9_singsOf.2.2, by decide⟩, mX9_146, sX9_singsOf⟩ rfl rfl (Nat.le_of_ble_eq_true rfl) hr ?_
    exact x_ireturn2 (pc := 38) dX9_aloneSings_38 rfl h.1 h.2
  · replace h := h.2 c1
    refine x_bipush (pc := 5) (12 : Int32) dX9_aloneSings_5 (by decide +kernel) ?_
    refine x_goto (pc := 7) 38 dX9_aloneSings_7 (by decide) ?_
    exact x_ireturn2 (pc := 38) dX9_aloneSings_38 rfl h.1 h.2
theorem dX9_layFits_0 : decode cX9_layFits 0 = .ok (.iconst 0, 1) := by decide +kernel
theorem dX9_layFits_1 : decode cX9_layFits 1 = .ok (.istore_n 3, 1) := by decide +kernel
theorem dX9_layFits_2 : decode cX9_layFits 2 = .ok (.iconst 0, 1) := by decide +kernel
theorem dX9_layFits_3 : decode cX9_layFits 3 = .ok (.istore 4, 2) := by decide +kernel
theorem dX9_layFits_5 : decode cX9_layFits 5 = .ok (.iload 4, 2) := by decide +kernel
theorem dX9_layFits_7 : decode cX9_layFits 7 = .ok (.sipush 4096, 3) := by decide +kernel
theorem dX9_layFits_10 : decode cX9_layFits 10 = .ok (.if_icmp .ge 133, 3) := by decide +kernel
theorem dX9_layFits_13 : decode cX9_layFits 13 = .ok (.aload_n 0, 1) := by decide +kernel
theorem dX9_layFits_14 : decode cX9_layFits 14 = .ok (.getfield 23, 3) := by decide +kernel
theorem dX9_layFits_17 : decode cX9_layFits 17 = .ok (.iload 4, 2) := by decide +kernel
theorem dX9_layFits_19 : decode cX9_layFits 19 = .ok (.invokestatic 113, 3) := by decide +kernel
theorem dX9_layFits_22 : decode cX9_layFits 22 = .ok (.istore 5, 2) := by decide +kernel
theorem dX9_layFits_24 : decode cX9_layFits 24 = .ok (.iload 4, 2) := by decide +kernel
theorem dX9_layFits_26 : decode cX9_layFits 26 = .ok (.ifCond .le 7, 3) := by decide +kernel
theorem dX9_layFits_29 : decode cX9_layFits 29 = .ok (.iconst 1, 1) := by decide +kernel
theorem dX9_layFits_30 : decode cX9_layFits 30 = .ok (.goto 4, 3) := by decide +kernel
theorem dX9_layFits_33 : decode cX9_layFits 33 = .ok (.iconst 0, 1) := by decide +kernel
theorem dX9_layFits_34 : decode cX9_layFits 34 = .ok (.istore 6, 2) := by decide +kernel
theorem dX9_layFits_36 : decode cX9_layFits 36 = .ok (.iconst 0, 1) := by decide +kernel
theorem dX9_layFits_37 : decode cX9_layFits 37 = .ok (.istore 7, 2) := by decide +kernel
theorem dX9_layFits_39 : decode cX9_layFits 39 = .ok (.iload 7, 2) := by decide +kernel
theorem dX9_layFits_41 : decode cX9_layFits 41 = .ok (.iload_n 2, 1) := by decide +kernel
theorem dX9_layFits_42 : decode cX9_layFits 42 = .ok (.if_icmp .ge 73, 3) := by decide +kernel
theorem dX9_layFits_45 : decode cX9_layFits 45 = .ok (.iload 6, 2) := by decide +kernel
theorem dX9_layFits_47 : decode cX9_layFits 47 = .ok (.ifCond .eq 68, 3) := by decide +kernel
theorem dX9_layFits_50 : decode cX9_layFits 50 = .ok (.aload_n 0, 1) := by decide +kernel
theorem dX9_layFits_51 : decode cX9_layFits 51 = .ok (.getfield 16, 3) := by decide +kernel
theorem dX9_layFits_54 : decode cX9_layFits 54 = .ok (.iload_n 1, 1) := by decide +kernel
theorem dX9_layFits_55 : decode cX9_layFits 55 = .ok (.iconst 2, 1) := by decide +kernel
theorem dX9_layFits_56 : decode cX9_layFits 56 = .ok (.iload 7, 2) := by decide +kernel
theorem dX9_layFits_58 : decode cX9_layFits 58 = .ok (.imul, 1) := by decide +kernel
theorem dX9_layFits_59 : decode cX9_layFits 59 = .ok (.iadd, 1) := by decide +kernel
theorem dX9_layFits_60 : decode cX9_layFits 60 = .ok (.laload, 1) := by decide +kernel
theorem dX9_layFits_61 : decode cX9_layFits 61 = .ok (.l2i, 1) := by decide +kernel
theorem dX9_layFits_62 : decode cX9_layFits 62 = .ok (.istore 8, 2) := by decide +kernel
theorem dX9_layFits_64 : decode cX9_layFits 64 = .ok (.aload_n 0, 1) := by decide +kernel
theorem dX9_layFits_65 : decode cX9_layFits 65 = .ok (.iload 8, 2) := by decide +kernel
theorem dX9_layFits_67 : decode cX9_layFits 67 = .ok (.aload_n 0, 1) := by decide +kernel
theorem dX9_layFits_68 : decode cX9_layFits 68 = .ok (.getfield 23, 3) := by decide +kernel
theorem dX9_layFits_71 : decode cX9_layFits 71 = .ok (.bipush 13, 2) := by decide +kernel
theorem dX9_layFits_73 : decode cX9_layFits 73 = .ok (.iload 8, 2) := by decide +kernel
theorem dX9_layFits_75 : decode cX9_layFits 75 = .ok (.iadd, 1) := by decide +kernel
theorem dX9_layFits_76 : decode cX9_layFits 76 = .ok (.iaload, 1) := by decide +kernel
theorem dX9_layFits_77 : decode cX9_layFits 77 = .ok (.iload 4, 2) := by decide +kernel
theorem dX9_layFits_79 : decode cX9_layFits 79 = .ok (.iload 5, 2) := by decide +kernel
theorem dX9_layFits_81 : decode cX9_layFits 81 = .ok (.invokevirtual 220, 3) := by decide +kernel
theorem dX9_layFits_84 : decode cX9_layFits 84 = .ok (.i2l, 1) := by decide +kernel
theorem dX9_layFits_85 : decode cX9_layFits 85 = .ok (.aload_n 0, 1) := by decide +kernel
theorem dX9_layFits_86 : decode cX9_layFits 86 = .ok (.getfield 16, 3) := by decide +kernel
theorem dX9_layFits_89 : decode cX9_layFits 89 = .ok (.iload_n 1, 1) := by decide +kernel
theorem dX9_layFits_90 : decode cX9_layFits 90 = .ok (.iconst 2, 1) := by decide +kernel
theorem dX9_layFits_91 : decode cX9_layFits 91 = .ok (.iload 7, 2) := by decide +kernel
theorem dX9_layFits_93 : decode cX9_layFits 93 = .ok (.imul, 1) := by decide +kernel
theorem dX9_layFits_94 : decode cX9_layFits 94 = .ok (.iadd, 1) := by decide +kernel
theorem dX9_layFits_95 : decode cX9_layFits 95 = .ok (.iconst 1, 1) := by decide +kernel
theorem dX9_layFits_96 : decode cX9_layFits 96 = .ok (.iadd, 1) := by decide +kernel
theorem dX9_layFits_97 : decode cX9_layFits 97 = .ok (.laload, 1) := by decide +kernel
theorem dX9_layFits_98 : decode cX9_layFits 98 = .ok (.lcmp, 1) := by decide +kernel
theorem dX9_layFits_99 : decode cX9_layFits 99 = .ok (.ifCond .ne 7, 3) := by decide +kernel
theorem dX9_layFits_102 : decode cX9_layFits 102 = .ok (.iconst 1, 1) := by decide +kernel
theorem dX9_layFits_103 : decode cX9_layFits 103 = .ok (.goto 4, 3) := by decide +kernel
theorem dX9_layFits_106 : decode cX9_layFits 106 = .ok (.iconst 0, 1) := by decide +kernel
theorem dX9_layFits_107 : decode cX9_layFits 107 = .ok (.istore 6, 2) := by decide +kernel
theorem dX9_layFits_109 : decode cX9_layFits 109 = .ok (.iinc 7 1, 3) := by decide +kernel
theorem dX9_layFits_112 : decode cX9_layFits 112 = .ok (.goto (-73), 3) := by decide +kernel
theorem dX9_layFits_115 : decode cX9_layFits 115 = .ok (.aload_n 0, 1) := by decide +kernel
theorem dX9_layFits_116 : decode cX9_layFits 116 = .ok (.getfield 51, 3) := by decide +kernel
theorem dX9_layFits_119 : decode cX9_layFits 119 = .ok (.iload 4, 2) := by decide +kernel
theorem dX9_layFits_121 : decode cX9_layFits 121 = .ok (.iload 6, 2) := by decide +kernel
theorem dX9_layFits_123 : decode cX9_layFits 123 = .ok (.bastore, 1) := by decide +kernel
theorem dX9_layFits_124 : decode cX9_layFits 124 = .ok (.iload_n 3, 1) := by decide +kernel
theorem dX9_layFits_125 : decode cX9_layFits 125 = .ok (.iload 6, 2) := by decide +kernel
theorem dX9_layFits_127 : decode cX9_layFits 127 = .ok (.ifCond .eq 7, 3) := by decide +kernel
theorem dX9_layFits_130 : decode cX9_layFits 130 = .ok (.iconst 1, 1) := by decide +kernel
theorem dX9_layFits_131 : decode cX9_layFits 131 = .ok (.goto 4, 3) := by decide +kernel
theorem dX9_layFits_134 : decode cX9_layFits 134 = .ok (.iconst 0, 1) := by decide +kernel
theorem dX9_layFits_135 : decode cX9_layFits 135 = .ok (.iadd, 1) := by decide +kernel
theorem dX9_layFits_136 : decode cX9_layFits 136 = .ok (.istore_n 3, 1) := by decide +kernel
theorem dX9_layFits_137 : decode cX9_layFits 137 = .ok (.iinc 4 1, 3) := by decide +kernel
theorem dX9_layFits_140 : decode cX9_layFits 140 = .ok (.goto (-135), 3) := by decide +kernel
theorem dX9_layFits_143 : decode cX9_layFits 143 = .ok (.iload_n 3, 1) := by decide +kernel
theorem dX9_layFits_144 : decode cX9_layFits 144 = .ok (.ireturn, 1) := by decide +kernel
def R_X9_layFits (a1 : Int32) (a2 : Int32) (σ : kS) (x : Int32) (τ : kS) : Prop := Run SM jX9_layFits [(.ref 0), (.int a1), (.int a2)] σ (some (.int x)) τ
def E_X9_layFits_5 (l1 : Int32) (l2 : Int32) (l3 : Int32) (l4 : Int32) (σ : kS) (x : Int32) (τ : kS) : Prop := Ex SM jX9_layFits 5 [some (.ref 0), some (.int l1), some (.int l2), some (.int l3), some (.int l4), none, none, none, none] [] σ (some (.int x)) τ
def E_X9_layFits_39 (l1 : Int32) (l2 : Int32) (l3 : Int32) (l4 : Int32) (l5 : Int32) (l6 : Int32) (l7 : Int32) (σ : kS) (x : Int32) (τ : kS) : Prop := Ex SM jX9_layFits 39 [some (.ref 0), some (.int l1), some (.int l2), some (.int l3), some (.int l4), some (.int l5), some (.int l6), some (.int l7), none] [] σ (some (.int x)) τ
def E_X9_layFits_115 (l1 : Int32) (l2 : Int32) (l3 : Int32) (l4 : Int32) (l6 : Int32) (σ : kS) (x : Int32) (τ : kS) : Prop := Ex SM jX9_layFits 115 [some (.ref 0), some (.int l1), some (.int l2), some (.int l3), some (.int l4), none, some (.int l6), none, none] [] σ (some (.int x)) τ
set_option maxRecDepth 20000 in
theorem t_X9_layFits {a1 : Int32} {a2 : Int32} {σ : kS} {x : Int32} {τ : kS}  (h : E_X9_layFits_5 a1 a2 (0 : Int32) (0 : Int32) σ x τ) : R_X9_layFits a1 a2 σ x τ := by
  refine x_run [some (.ref 0), some (.int a1), some (.int a2), none, none, none, none, none, none] (by decide +kernel) rfl (Nat.le_of_ble_eq_true rfl) ?_
  refine x_iconst (pc := 0) (0 : Int32) dX9_layFits_0 (by decide +kernel) ?_
  refine x_istore_n (pc := 1) 3 dX9_layFits_1 rfl (by decide) rfl ?_
  refine x_iconst (pc := 2) (0 : Int32) dX9_layFits_2 (by decide +kernel) ?_
  refine x_istore (pc := 3) dX9_layFits_3 (by decide) rfl ?_
  exact h
set_option maxRecDepth 20000 in
theorem t_X9_layFits_5 {l1 : Int32} {l2 : Int32} {l3 : Int32} {l4 : Int32} {σ : kS} {x : Int32} {τ : kS}  (h : ((4096 : Int32) ≤ l4 → x = l3 ∧ τ = σ) ∧ (¬ (4096 : Int32) ≤ l4 → ∃ (x3 : Int32) (s2 : kS), R_X9_chordBy 5 l4 σ x3 s2 ∧ ((l4 ≤ 0 → E_X9_layFits_39 l1 l2 l3 l4 x3 (0 : Int32) (0 : Int32) s2 x τ) ∧ (¬ l4 ≤ 0 → E_X9_layFits_39 l1 l2 l3 l4 x3 (1 : Int32) (0 : Int32) s2 x τ)))) : E_X9_layFits_5 l1 l2 l3 l4 σ x τ := by
  unfold E_X9_layFits_5
  refine x_iload (pc := 5) dX9_layFits_5 rfl ?_
  refine x_sipush (pc := 7) (4096 : Int32) dX9_layFits_7 (by decide +kernel) ?_
  refine x_icmp_ge (pc := 10) 143 dX9_layFits_10 (by decide) (fun c1 => ?_) (fun c1 => ?_)
  · replace h := h.1 c1
    refine x_iload_n (pc := 143) 3 dX9_layFits_143 rfl rfl ?_
    exact x_ireturn2 (pc := 144) dX9_layFits_144 rfl h.1 h.2
  · replace h := h.2 c1
    refine x_aload_n (pc := 13) 0 dX9_layFits_13 rfl rfl ?_
    refine x_getR (pc := 14) dX9_layFits_14 fX9_23 rfl rfl ?_
    refine x_iload (pc := 17) dX9_layFits_17 rfl ?_
    obtain ⟨x3, s2, hr, h⟩ := h
    refine x_callS (pc := 19) [(.ref 5), (.int l4)] [] dX9_layFits_19 ⟨⟨hX9_chordBy.1, hX9_chordBy.2.1, hX9_chordBy.2.2, by decide⟩, mX9_113, sX9_chordBy⟩ rfl rfl (Nat.le_of_ble_eq_true rfl) hr ?_
    refine x_istore (pc := 22) dX9_layFits_22 (by decide) rfl ?_
    refine x_iload (pc := 24) dX9_layFits_24 rfl ?_
    refine x_if_le (pc := 26) 33 dX9_layFits_26 (by decide) (fun c4 => ?_) (fun c4 => ?_)
    · replace h := h.1 c4
      refine x_iconst (pc := 33) (0 : Int32) dX9_layFits_33 (by decide +kernel) ?_
      refine x_istore (pc := 34) dX9_layFits_34 (by decide) rfl ?_
      refine x_iconst (pc := 36) (0 : Int32) dX9_layFits_36 (by decide +kernel) ?_
      refine x_istore (pc := 37) dX9_layFits_37 (by decide) rfl ?_
      exact h
    · replace h := h.2 c4
      refine x_iconst (pc := 29) (1 : Int32) dX9_layFits_29 (by decide +kernel) ?_
      refine x_goto (pc := 30) 34 dX9_layFits_30 (by decide) ?_
      refine x_istore (pc := 34) dX9_layFits_34 (by decide) rfl ?_
      refine x_iconst (pc := 36) (0 : Int32) dX9_layFits_36 (by decide +kernel) ?_
      refine x_istore (pc := 37) dX9_layFits_37 (by decide) rfl ?_
      exact h
set_option maxRecDepth 20000 in
theorem t_X9_layFits_39 {l1 : Int32} {l2 : Int32} {l3 : Int32} {l4 : Int32} {l5 : Int32} {l6 : Int32} {l7 : Int32} {σ : kS} {x : Int32} {τ : kS}  (h : (l2 ≤ l7 → E_X9_layFits_115 l1 l2 l3 l4 l6 σ x τ) ∧ (¬ l2 ≤ l7 → (l6 = 0 → E_X9_layFits_115 l1 l2 l3 l4 l6 σ x τ) ∧ (¬ l6 = 0 → vp_in (l1 + ((2 : Int32) * l7)) 96 ∧ (vp_in ((13 : Int32) + (σ.2 3 (l1 + ((2 : Int32) * l7)).toNatClampNeg).toInt32) 38 ∧ (∃ (x6 : Int32) (s5 : kS), R_X9_aloneSings (σ.2 3 (l1 + ((2 : Int32) * l7)).toNatClampNeg).toInt32 (σ.1 5 ((13 : Int32) + (σ.2 3 (l1 + ((2 : Int32) * l7)).toNatClampNeg).toInt32).toNatClampNeg) l4 l5 σ x6 s5 ∧ (vp_in ((l1 + ((2 : Int32) * l7)) + (1 : Int32)) 96 ∧ ((¬ (lg_cmp x6.toInt64 (s5.2 3 ((l1 + ((2 : Int32) * l7)) + (1 : Int32)).toNatClampNeg)) = 0 → E_X9_layFits_39 l1 l2 l3 l4 l5 (0 : Int32) (l7 + (1 : Int32)) s5 x τ) ∧ ((lg_cmp x6.toInt64 (s5.2 3 ((l1 + ((2 : Int32) * l7)) + (1 : Int32)).toNatClampNeg)) = 0 → E_X9_layFits_39 l1 l2 l3 l4 l5 (1 : Int32) (l7 + (1 : Int32)) s5 x τ)))))))) : E_X9_layFits_39 l1 l2 l3 l4 l5 l6 l7 σ x τ := by
  unfold E_X9_layFits_39
  refine x_iload (pc := 39) dX9_layFits_39 rfl ?_
  refine x_iload_n (pc := 41) 2 dX9_layFits_41 rfl rfl ?_
  refine x_icmp_ge (pc := 42) 115 dX9_layFits_42 (by decide) (fun c1 => ?_) (fun c1 => ?_)
  · replace h := h.1 c1
    exact x_mask [true, true, true, true, true, false, true, false, false] h
  · replace h := h.2 c1
    refine x_iload (pc := 45) dX9_layFits_45 rfl ?_
    refine x_if_eq (pc := 47) 115 dX9_layFits_47 (by decide) (fun c2 => ?_) (fun c2 => ?_)
    · replace h := h.1 c2
      exact x_mask [true, true, true, true, true, false, true, false, false] h
    · replace h := h.2 c2
      refine x_aload_n (pc := 50) 0 dX9_layFits_50 rfl rfl ?_
      refine x_getR (pc := 51) dX9_layFits_51 fX9_16 rfl rfl ?_
      refine x_iload_n (pc := 54) 1 dX9_layFits_54 rfl rfl ?_
      refine x_iconst (pc := 55) (2 : Int32) dX9_layFits_55 (by decide +kernel) ?_
      refine x_iload (pc := 56) dX9_layFits_56 rfl ?_
      refine x_imul (pc := 58) dX9_layFits_58 ?_
      refine x_iadd (pc := 59) dX9_layFits_59 ?_
      obtain ⟨g3, h⟩ := h
      refine x_laload (pc := 60) (n := 96) dX9_layFits_60 rfl g3 ?_
      refine x_l2i (pc := 61) dX9_layFits_61 ?_
      refine x_istore (pc := 62) dX9_layFits_62 (by decide) rfl ?_
      refine x_aload_n (pc := 64) 0 dX9_layFits_64 rfl rfl ?_
      refine x_iload (pc := 65) dX9_layFits_65 rfl ?_
      refine x_aload_n (pc := 67) 0 dX9_layFits_67 rfl rfl ?_
      refine x_getR (pc := 68) dX9_layFits_68 fX9_23 rfl rfl ?_
      refine x_bipush (pc := 71) (13 : Int32) dX9_layFits_71 (by decide +kernel) ?_
      refine x_iload (pc := 73) dX9_layFits_73 rfl ?_
      refine x_iadd (pc := 75) dX9_layFits_75 ?_
      obtain ⟨g4, h⟩ := h
      refine x_iaload (pc := 76) (n := 38) dX9_layFits_76 rfl g4 ?_
      refine x_iload (pc := 77) dX9_layFits_77 rfl ?_
      refine x_iload (pc := 79) dX9_layFits_79 rfl ?_
      obtain ⟨x6, s5, hr, h⟩ := h
      refine x_callV (pc := 81) [(.int (σ.2 3 (l1 + ((2 : Int32) * l7)).toNatClampNeg).toInt32), (.int (σ.1 5 ((13 : Int32) + (σ.2 3 (l1 + ((2 : Int32) * l7)).toNatClampNeg).toInt32).toNatClampNeg)), (.int l4), (.int l5)] [] dX9_layFits_81 ⟨⟨hX9_aloneSings.1, hX9_aloneSings.2.1, hX9_aloneSings.2.2, by decide⟩, mX9_220, vX9_aloneSings.1, vX9_aloneSings.2⟩ (ci := 9) rfl rfl rfl rfl (Nat.le_of_ble_eq_true rfl) hr ?_
      refine x_i2l (pc := 84) dX9_layFits_84 ?_
      refine x_aload_n (pc := 85) 0 dX9_layFits_85 rfl rfl ?_
      refine x_getR (pc := 86) dX9_layFits_86 fX9_16 rfl rfl ?_
      refine x_iload_n (pc := 89) 1 dX9_layFits_89 rfl rfl ?_
      refine x_iconst (pc := 90) (2 : Int32) dX9_layFits_90 (by decide +kernel) ?_
      refine x_iload (pc := 91) dX9_layFits_91 rfl ?_
      refine x_imul (pc := 93) dX9_layFits_93 ?_
      refine x_iadd (pc := 94) dX9_layFits_94 ?_
      refine x_iconst (pc := 95) (1 : Int32) dX9_layFits_95 (by decide +kernel) ?_
      refine x_iadd (pc := 96) dX9_layFits_96 ?_
      obtain ⟨g7, h⟩ := h
      refine x_laload (pc := 97) (n := 96) dX9_layFits_97 rfl g7 ?_
      refine x_lcmp (pc := 98) dX9_layFits_98 ?_
      refine x_if_ne (pc := 99) 106 dX9_layFits_99 (by decide) (fun c8 => ?_) (fun c8 => ?_)
      · replace h := h.1 c8
        refine x_iconst (pc := 106) (0 : Int32) dX9_layFits_106 (by decide +kernel) ?_
        refine x_istore (pc := 107) dX9_layFits_107 (by decide) rfl ?_
        refine x_iinc (pc := 109) (1 : Int32) dX9_layFits_109 (by decide) rfl rfl (by decide +kernel) ?_
        refine x_goto (pc := 112) 39 dX9_layFits_112 (by decide) ?_
        exact x_mask [true, true, true, true, true, true, true, true, false] h
      · replace h := h.2 c8
        refine x_iconst (pc := 102) (1 : Int32) dX9_layFits_102 (by decide +kernel) ?_
        refine x_goto (pc := 103) 107 dX9_layFits_103 (by decide) ?_
        refine x_istore (pc := 107) dX9_layFits_107 (by decide) rfl ?_
        refine x_iinc (pc := 109) (1 : Int32) dX9_layFits_109 (by decide) rfl rfl (by decide +kernel) ?_
        refine x_goto (pc := 112) 39 dX9_layFits_112 (by decide) ?_
        exact x_mask [true, true, true, true, true, true, true, true, false] h
set_option maxRecDepth 20000 in
theorem t_X9_layFits_115 {l1 : Int32} {l2 : Int32} {l3 : Int32} {l4 : Int32} {l6 : Int32} {σ : kS} {x : Int32} {τ : kS}  (h : vp_in l4 4096 ∧ ((l6 = 0 → E_X9_layFits_5 l1 l2 (l3 + (0 : Int32)) (l4 + (1 : Int32)) (k_si σ 14 l4.toNatClampNeg (vp_nar .boolean l6)) x τ) ∧ (¬ l6 = 0 → E_X9_layFits_5 l1 l2 (l3 + (1 : Int32)) (l4 + (1 : Int32)) (k_si σ 14 l4.toNatClampNeg (vp_nar .boolean l6)) x τ))) : E_X9_layFits_115 l1 l2 l3 l4 l6 σ x τ := by
  unfold E_X9_layFits_115
  refine x_aload_n (pc := 115) 0 dX9_layFits_115 rfl rfl ?_
  refine x_getR (pc := 116) dX9_layFits_116 fX9_51 rfl rfl ?_
  refine x_iload (pc := 119) dX9_layFits_119 rfl ?_
  refine x_iload (pc := 121) dX9_layFits_121 rfl ?_
  obtain ⟨g1, h⟩ := h
  refine x_bastore (pc := 123) (n := 4096) dX9_layFits_123 rfl g1 ?_
  refine x_iload_n (pc := 124) 3 dX9_layFits_124 rfl rfl ?_
  refine x_iload (pc := 125) dX9_layFits_125 rfl ?_
  refine x_if_eq (pc := 127) 134 dX9_layFits_127 (by decide) (fun c2 => ?_) (fun c2 => ?_)
  · replace h := h.1 c2
    refine x_iconst (pc := 134) (0 : Int32) dX9_layFits_134 (by decide +kernel) ?_
    refine x_iadd (pc := 135) dX9_layFits_135 ?_
    refine x_istore_n (pc := 136) 3 dX9_layFits_136 rfl (by decide) rfl ?_
    refine x_iinc (pc := 137) (1 : Int32) dX9_layFits_137 (by decide) rfl rfl (by decide +kernel) ?_
    refine x_goto (pc := 140) 5 dX9_layFits_140 (by decide) ?_
    exact x_mask [true, true, true, true, true, false, false, false, false] h
  · replace h := h.2 c2
    refine x_iconst (pc := 130) (1 : Int32) dX9_layFits_130 (by decide +kernel) ?_
    refine x_goto (pc := 131) 135 dX9_layFits_131 (by decide) ?_
    refine x_iadd (pc := 135) dX9_layFits_135 ?_
    refine x_istore_n (pc := 136) 3 dX9_layFits_136 rfl (by decide) rfl ?_
    refine x_iinc (pc := 137) (1 : Int32) dX9_layFits_137 (by decide) rfl rfl (by decide +kernel) ?_
    refine x_goto (pc := 140) 5 dX9_layFits_140 (by decide) ?_
    exact x_mask [true, true, true, true, true, false, false, false, false] h
theorem dX9_leastFit_0 : decode cX9_leastFit 0 = .ok (.iconst 0, 1) := by decide +kernel
theorem dX9_leastFit_1 : decode cX9_leastFit 1 = .ok (.istore_n 1, 1) := by decide +kernel
theorem dX9_leastFit_2 : decode cX9_leastFit 2 = .ok (.iload_n 1, 1) := by decide +kernel
theorem dX9_leastFit_3 : decode cX9_leastFit 3 = .ok (.sipush 4096, 3) := by decide +kernel
theorem dX9_leastFit_6 : decode cX9_leastFit 6 = .ok (.if_icmp .ge 20, 3) := by decide +kernel
theorem dX9_leastFit_9 : decode cX9_leastFit 9 = .ok (.aload_n 0, 1) := by decide +kernel
theorem dX9_leastFit_10 : decode cX9_leastFit 10 = .ok (.getfield 51, 3) := by decide +kernel
theorem dX9_leastFit_13 : decode cX9_leastFit 13 = .ok (.iload_n 1, 1) := by decide +kernel
theorem dX9_leastFit_14 : decode cX9_leastFit 14 = .ok (.baload, 1) := by decide +kernel
theorem dX9_leastFit_15 : decode cX9_leastFit 15 = .ok (.ifCond .eq 5, 3) := by decide +kernel
theorem dX9_leastFit_18 : decode cX9_leastFit 18 = .ok (.iload_n 1, 1) := by decide +kernel
theorem dX9_leastFit_19 : decode cX9_leastFit 19 = .ok (.ireturn, 1) := by decide +kernel
theorem dX9_leastFit_20 : decode cX9_leastFit 20 = .ok (.iinc 1 1, 3) := by decide +kernel
theorem dX9_leastFit_23 : decode cX9_leastFit 23 = .ok (.goto (-21), 3) := by decide +kernel
theorem dX9_leastFit_26 : decode cX9_leastFit 26 = .ok (.bipush (-4), 2) := by decide +kernel
theorem dX9_leastFit_28 : decode cX9_leastFit 28 = .ok (.ireturn, 1) := by decide +kernel
def R_X9_leastFit  (σ : kS) (x : Int32) (τ : kS) : Prop := Run SM jX9_leastFit [(.ref 0)] σ (some (.int x)) τ
def E_X9_leastFit_2 (l1 : Int32) (σ : kS) (x : Int32) (τ : kS) : Prop := Ex SM jX9_leastFit 2 [some (.ref 0), some (.int l1)] [] σ (some (.int x)) τ
set_option maxRecDepth 20000 in
theorem t_X9_leastFit  {σ : kS} {x : Int32} {τ : kS}  (h : E_X9_leastFit_2 (0 : Int32) σ x τ) : R_X9_leastFit  σ x τ := by
  refine x_run [some (.ref 0), none] (by decide +kernel) rfl (Nat.le_of_ble_eq_true rfl) ?_
  refine x_iconst (pc := 0) (0 : Int32) dX9_leastFit_0 (by decide +kernel) ?_
  refine x_istore_n (pc := 1) 1 dX9_leastFit_1 rfl (by decide) rfl ?_
  exact h
set_option maxRecDepth 20000 in
theorem t_X9_leastFit_2 {l1 : Int32} {σ : kS} {x : Int32} {τ : kS}  (h : ((4096 : Int32) ≤ l1 → x = (-4 : Int32) ∧ τ = σ) ∧ (¬ (4096 : Int32) ≤ l1 → vp_in l1 4096 ∧ (((σ.1 14 l1.toNatClampNeg) = 0 → E_X9_leastFit_2 (l1 + (1 : Int32)) σ x τ) ∧ (¬ (σ.1 14 l1.toNatClampNeg) = 0 → x = l1 ∧ τ = σ)))) : E_X9_leastFit_2 l1 σ x τ := by
  unfold E_X9_leastFit_2
  refine x_iload_n (pc := 2) 1 dX9_leastFit_2 rfl rfl ?_
  refine x_sipush (pc := 3) (4096 : Int32) dX9_leastFit_3 (by decide +kernel) ?_
  refine x_icmp_ge (pc := 6) 26 dX9_leastFit_6 (by decide) (fun c1 => ?_) (fun c1 => ?_)
  · replace h := h.1 c1
    refine x_bipush (pc := 26) (-4 : Int32) dX9_leastFit_26 (by decide +kernel) ?_
    exact x_ireturn2 (pc := 28) dX9_leastFit_28 rfl h.1 h.2
  · replace h := h.2 c1
    refine x_aload_n (pc := 9) 0 dX9_leastFit_9 rfl rfl ?_
    refine x_getR (pc := 10) dX9_leastFit_10 fX9_51 rfl rfl ?_
    refine x_iload_n (pc := 13) 1 dX9_leastFit_13 rfl rfl ?_
    obtain ⟨g2, h⟩ := h
    refine x_baload (pc := 14) (n := 4096) dX9_leastFit_14 rfl g2 ?_
    refine x_if_eq (pc := 15) 20 dX9_leastFit_15 (by decide) (fun c3 => ?_) (fun c3 => ?_)
    · replace h := h.1 c3
      refine x_iinc (pc := 20) (1 : Int32) dX9_leastFit_20 (by decide) rfl rfl (by decide +kernel) ?_
      refine x_goto (pc := 23) 2 dX9_leastFit_23 (by decide) ?_
      exact h
    · replace h := h.2 c3
      refine x_iload_n (pc := 18) 1 dX9_leastFit_18 rfl rfl ?_
      exact x_ireturn2 (pc := 19) dX9_leastFit_19 rfl h.1 h.2
theorem dX9_bestHeard_0 : decode cX9_bestHeard 0 = .ok (.iconst 0, 1) := by decide +kernel
theorem dX9_bestHeard_1 : decode cX9_bestHeard 1 = .ok (.istore_n 1, 1) := by decide +kernel
theorem dX9_bestHeard_2 : decode cX9_bestHeard 2 = .ok (.iload_n 1, 1) := by decide +kernel
theorem dX9_bestHeard_3 : decode cX9_bestHeard 3 = .ok (.bipush 65, 2) := by decide +kernel
theorem dX9_bestHeard_5 : decode cX9_bestHeard 5 = .ok (.if_icmp .ge 16, 3) := by decide +kernel
theorem dX9_bestHeard_8 : decode cX9_bestHeard 8 = .ok (.aload_n 0, 1) := by decide +kernel
theorem dX9_bestHeard_9 : decode cX9_bestHeard 9 = .ok (.getfield 48, 3) := by decide +kernel
theorem dX9_bestHeard_12 : decode cX9_bestHeard 12 = .ok (.iload_n 1, 1) := by decide +kernel
theorem dX9_bestHeard_13 : decode cX9_bestHeard 13 = .ok (.iconst 0, 1) := by decide +kernel
theorem dX9_bestHeard_14 : decode cX9_bestHeard 14 = .ok (.iastore, 1) := by decide +kernel
theorem dX9_bestHeard_15 : decode cX9_bestHeard 15 = .ok (.iinc 1 1, 3) := by decide +kernel
theorem dX9_bestHeard_18 : decode cX9_bestHeard 18 = .ok (.goto (-16), 3) := by decide +kernel
theorem dX9_bestHeard_21 : decode cX9_bestHeard 21 = .ok (.iconst 0, 1) := by decide +kernel
theorem dX9_bestHeard_22 : decode cX9_bestHeard 22 = .ok (.istore_n 1, 1) := by decide +kernel
theorem dX9_bestHeard_23 : decode cX9_bestHeard 23 = .ok (.iload_n 1, 1) := by decide +kernel
theorem dX9_bestHeard_24 : decode cX9_bestHeard 24 = .ok (.sipush 4096, 3) := by decide +kernel
theorem dX9_bestHeard_27 : decode cX9_bestHeard 27 = .ok (.if_icmp .ge 88, 3) := by decide +kernel
theorem dX9_bestHeard_30 : decode cX9_bestHeard 30 = .ok (.aload_n 0, 1) := by decide +kernel
theorem dX9_bestHeard_31 : decode cX9_bestHeard 31 = .ok (.getfield 51, 3) := by decide +kernel
theorem dX9_bestHeard_34 : decode cX9_bestHeard 34 = .ok (.iload_n 1, 1) := by decide +kernel
theorem dX9_bestHeard_35 : decode cX9_bestHeard 35 = .ok (.baload, 1) := by decide +kernel
theorem dX9_bestHeard_36 : decode cX9_bestHeard 36 = .ok (.ifCond .eq 14, 3) := by decide +kernel
theorem dX9_bestHeard_39 : decode cX9_bestHeard 39 = .ok (.aload_n 0, 1) := by decide +kernel
theorem dX9_bestHeard_40 : decode cX9_bestHeard 40 = .ok (.getfield 23, 3) := by decide +kernel
theorem dX9_bestHeard_43 : decode cX9_bestHeard 43 = .ok (.iload_n 1, 1) := by decide +kernel
theorem dX9_bestHeard_44 : decode cX9_bestHeard 44 = .ok (.invokestatic 113, 3) := by decide +kernel
theorem dX9_bestHeard_47 : decode cX9_bestHeard 47 = .ok (.goto 4, 3) := by decide +kernel
theorem dX9_bestHeard_50 : decode cX9_bestHeard 50 = .ok (.iconst (-1), 1) := by decide +kernel
theorem dX9_bestHeard_51 : decode cX9_bestHeard 51 = .ok (.istore_n 2, 1) := by decide +kernel
theorem dX9_bestHeard_52 : decode cX9_bestHeard 52 = .ok (.iconst 0, 1) := by decide +kernel
theorem dX9_bestHeard_53 : decode cX9_bestHeard 53 = .ok (.istore_n 3, 1) := by decide +kernel
theorem dX9_bestHeard_54 : decode cX9_bestHeard 54 = .ok (.iload_n 3, 1) := by decide +kernel
theorem dX9_bestHeard_55 : decode cX9_bestHeard 55 = .ok (.aload_n 0, 1) := by decide +kernel
theorem dX9_bestHeard_56 : decode cX9_bestHeard 56 = .ok (.getfield 23, 3) := by decide +kernel
theorem dX9_bestHeard_59 : decode cX9_bestHeard 59 = .ok (.iconst 3, 1) := by decide +kernel
theorem dX9_bestHeard_60 : decode cX9_bestHeard 60 = .ok (.iaload, 1) := by decide +kernel
theorem dX9_bestHeard_61 : decode cX9_bestHeard 61 = .ok (.if_icmp .ge 48, 3) := by decide +kernel
theorem dX9_bestHeard_64 : decode cX9_bestHeard 64 = .ok (.aload_n 0, 1) := by decide +kernel
theorem dX9_bestHeard_65 : decode cX9_bestHeard 65 = .ok (.getfield 51, 3) := by decide +kernel
theorem dX9_bestHeard_68 : decode cX9_bestHeard 68 = .ok (.iload_n 1, 1) := by decide +kernel
theorem dX9_bestHeard_69 : decode cX9_bestHeard 69 = .ok (.baload, 1) := by decide +kernel
theorem dX9_bestHeard_70 : decode cX9_bestHeard 70 = .ok (.ifCond .eq 39, 3) := by decide +kernel
theorem dX9_bestHeard_73 : decode cX9_bestHeard 73 = .ok (.aload_n 0, 1) := by decide +kernel
theorem dX9_bestHeard_74 : decode cX9_bestHeard 74 = .ok (.getfield 48, 3) := by decide +kernel
theorem dX9_bestHeard_77 : decode cX9_bestHeard 77 = .ok (.bipush 13, 2) := by decide +kernel
theorem dX9_bestHeard_79 : decode cX9_bestHeard 79 = .ok (.iload_n 3, 1) := by decide +kernel
theorem dX9_bestHeard_80 : decode cX9_bestHeard 80 = .ok (.imul, 1) := by decide +kernel
theorem dX9_bestHeard_81 : decode cX9_bestHeard 81 = .ok (.aload_n 0, 1) := by decide +kernel
theorem dX9_bestHeard_82 : decode cX9_bestHeard 82 = .ok (.iload_n 3, 1) := by decide +kernel
theorem dX9_bestHeard_83 : decode cX9_bestHeard 83 = .ok (.aload_n 0, 1) := by decide +kernel
theorem dX9_bestHeard_84 : decode cX9_bestHeard 84 = .ok (.getfield 23, 3) := by decide +kernel
theorem dX9_bestHeard_87 : decode cX9_bestHeard 87 = .ok (.bipush 13, 2) := by decide +kernel
theorem dX9_bestHeard_89 : decode cX9_bestHeard 89 = .ok (.iload_n 3, 1) := by decide +kernel
theorem dX9_bestHeard_90 : decode cX9_bestHeard 90 = .ok (.iadd, 1) := by decide +kernel
theorem dX9_bestHeard_91 : decode cX9_bestHeard 91 = .ok (.iaload, 1) := by decide +kernel
theorem dX9_bestHeard_92 : decode cX9_bestHeard 92 = .ok (.iload_n 1, 1) := by decide +kernel
theorem dX9_bestHeard_93 : decode cX9_bestHeard 93 = .ok (.iload_n 2, 1) := by decide +kernel
theorem dX9_bestHeard_94 : decode cX9_bestHeard 94 = .ok (.invokevirtual 220, 3) := by decide +kernel
theorem dX9_bestHeard_97 : decode cX9_bestHeard 97 = .ok (.iadd, 1) := by decide +kernel
theorem dX9_bestHeard_98 : decode cX9_bestHeard 98 = .ok (.dup2, 1) := by decide +kernel
theorem dX9_bestHeard_99 : decode cX9_bestHeard 99 = .ok (.iaload, 1) := by decide +kernel
theorem dX9_bestHeard_100 : decode cX9_bestHeard 100 = .ok (.iconst 1, 1) := by decide +kernel
theorem dX9_bestHeard_101 : decode cX9_bestHeard 101 = .ok (.iadd, 1) := by decide +kernel
theorem dX9_bestHeard_102 : decode cX9_bestHeard 102 = .ok (.iastore, 1) := by decide +kernel
theorem dX9_bestHeard_103 : decode cX9_bestHeard 103 = .ok (.iinc 3 1, 3) := by decide +kernel
theorem dX9_bestHeard_106 : decode cX9_bestHeard 106 = .ok (.goto (-52), 3) := by decide +kernel
theorem dX9_bestHeard_109 : decode cX9_bestHeard 109 = .ok (.iinc 1 1, 3) := by decide +kernel
theorem dX9_bestHeard_112 : decode cX9_bestHeard 112 = .ok (.goto (-89), 3) := by decide +kernel
theorem dX9_bestHeard_115 : decode cX9_bestHeard 115 = .ok (.bipush (-4), 2) := by decide +kernel
theorem dX9_bestHeard_117 : decode cX9_bestHeard 117 = .ok (.istore_n 1, 1) := by decide +kernel
theorem dX9_bestHeard_118 : decode cX9_bestHeard 118 = .ok (.sipush 4096, 3) := by decide +kernel
theorem dX9_bestHeard_121 : decode cX9_bestHeard 121 = .ok (.istore_n 2, 1) := by decide +kernel
theorem dX9_bestHeard_122 : decode cX9_bestHeard 122 = .ok (.iconst 0, 1) := by decide +kernel
theorem dX9_bestHeard_123 : decode cX9_bestHeard 123 = .ok (.istore_n 3, 1) := by decide +kernel
theorem dX9_bestHeard_124 : decode cX9_bestHeard 124 = .ok (.iload_n 3, 1) := by decide +kernel
theorem dX9_bestHeard_125 : decode cX9_bestHeard 125 = .ok (.aload_n 0, 1) := by decide +kernel
theorem dX9_bestHeard_126 : decode cX9_bestHeard 126 = .ok (.getfield 23, 3) := by decide +kernel
theorem dX9_bestHeard_129 : decode cX9_bestHeard 129 = .ok (.iconst 3, 1) := by decide +kernel
theorem dX9_bestHeard_130 : decode cX9_bestHeard 130 = .ok (.iaload, 1) := by decide +kernel
theorem dX9_bestHeard_131 : decode cX9_bestHeard 131 = .ok (.if_icmp .ge 89, 3) := by decide +kernel
theorem dX9_bestHeard_134 : decode cX9_bestHeard 134 = .ok (.iconst 0, 1) := by decide +kernel
theorem dX9_bestHeard_135 : decode cX9_bestHeard 135 = .ok (.istore 4, 2) := by decide +kernel
theorem dX9_bestHeard_137 : decode cX9_bestHeard 137 = .ok (.iconst 0, 1) := by decide +kernel
theorem dX9_bestHeard_138 : decode cX9_bestHeard 138 = .ok (.istore 5, 2) := by decide +kernel
theorem dX9_bestHeard_140 : decode cX9_bestHeard 140 = .ok (.iload 5, 2) := by decide +kernel
theorem dX9_bestHeard_142 : decode cX9_bestHeard 142 = .ok (.bipush 13, 2) := by decide +kernel
theorem dX9_bestHeard_144 : decode cX9_bestHeard 144 = .ok (.if_icmp .ge 45, 3) := by decide +kernel
theorem dX9_bestHeard_147 : decode cX9_bestHeard 147 = .ok (.aload_n 0, 1) := by decide +kernel
theorem dX9_bestHeard_148 : decode cX9_bestHeard 148 = .ok (.getfield 48, 3) := by decide +kernel
theorem dX9_bestHeard_151 : decode cX9_bestHeard 151 = .ok (.bipush 13, 2) := by decide +kernel
theorem dX9_bestHeard_153 : decode cX9_bestHeard 153 = .ok (.iload_n 3, 1) := by decide +kernel
theorem dX9_bestHeard_154 : decode cX9_bestHeard 154 = .ok (.imul, 1) := by decide +kernel
theorem dX9_bestHeard_155 : decode cX9_bestHeard 155 = .ok (.iload 5, 2) := by decide +kernel
theorem dX9_bestHeard_157 : decode cX9_bestHeard 157 = .ok (.iadd, 1) := by decide +kernel
theorem dX9_bestHeard_158 : decode cX9_bestHeard 158 = .ok (.iaload, 1) := by decide +kernel
theorem dX9_bestHeard_159 : decode cX9_bestHeard 159 = .ok (.iload 4, 2) := by decide +kernel
theorem dX9_bestHeard_161 : decode cX9_bestHeard 161 = .ok (.if_icmp .le 18, 3) := by decide +kernel
theorem dX9_bestHeard_164 : decode cX9_bestHeard 164 = .ok (.aload_n 0, 1) := by decide +kernel
theorem dX9_bestHeard_165 : decode cX9_bestHeard 165 = .ok (.getfield 48, 3) := by decide +kernel
theorem dX9_bestHeard_168 : decode cX9_bestHeard 168 = .ok (.bipush 13, 2) := by decide +kernel
theorem dX9_bestHeard_170 : decode cX9_bestHeard 170 = .ok (.iload_n 3, 1) := by decide +kernel
theorem dX9_bestHeard_171 : decode cX9_bestHeard 171 = .ok (.imul, 1) := by decide +kernel
theorem dX9_bestHeard_172 : decode cX9_bestHeard 172 = .ok (.iload 5, 2) := by decide +kernel
theorem dX9_bestHeard_174 : decode cX9_bestHeard 174 = .ok (.iadd, 1) := by decide +kernel
theorem dX9_bestHeard_175 : decode cX9_bestHeard 175 = .ok (.iaload, 1) := by decide +kernel
theorem dX9_bestHeard_176 : decode cX9_bestHeard 176 = .ok (.goto 5, 3) := by decide +kernel
theorem dX9_bestHeard_179 : decode cX9_bestHeard 179 = .ok (.iload 4, 2) := by decide +kernel
theorem dX9_bestHeard_181 : decode cX9_bestHeard 181 = .ok (.istore 4, 2) := by decide +kernel
theorem dX9_bestHeard_183 : decode cX9_bestHeard 183 = .ok (.iinc 5 1, 3) := by decide +kernel
theorem dX9_bestHeard_186 : decode cX9_bestHeard 186 = .ok (.goto (-46), 3) := by decide +kernel
theorem dX9_bestHeard_189 : decode cX9_bestHeard 189 = .ok (.iload 4, 2) := by decide +kernel
theorem dX9_bestHeard_191 : decode cX9_bestHeard 191 = .ok (.iload_n 2, 1) := by decide +kernel
theorem dX9_bestHeard_192 : decode cX9_bestHeard 192 = .ok (.if_icmp .ge 7, 3) := by decide +kernel
theorem dX9_bestHeard_195 : decode cX9_bestHeard 195 = .ok (.iload_n 3, 1) := by decide +kernel
theorem dX9_bestHeard_196 : decode cX9_bestHeard 196 = .ok (.goto 4, 3) := by decide +kernel
theorem dX9_bestHeard_199 : decode cX9_bestHeard 199 = .ok (.iload_n 1, 1) := by decide +kernel
theorem dX9_bestHeard_200 : decode cX9_bestHeard 200 = .ok (.istore_n 1, 1) := by decide +kernel
theorem dX9_bestHeard_201 : decode cX9_bestHeard 201 = .ok (.iload 4, 2) := by decide +kernel
theorem dX9_bestHeard_203 : decode cX9_bestHeard 203 = .ok (.iload_n 2, 1) := by decide +kernel
theorem dX9_bestHeard_204 : decode cX9_bestHeard 204 = .ok (.if_icmp .ge 8, 3) := by decide +kernel
theorem dX9_bestHeard_207 : decode cX9_bestHeard 207 = .ok (.iload 4, 2) := by decide +kernel
theorem dX9_bestHeard_209 : decode cX9_bestHeard 209 = .ok (.goto 4, 3) := by decide +kernel
theorem dX9_bestHeard_212 : decode cX9_bestHeard 212 = .ok (.iload_n 2, 1) := by decide +kernel
theorem dX9_bestHeard_213 : decode cX9_bestHeard 213 = .ok (.istore_n 2, 1) := by decide +kernel
theorem dX9_bestHeard_214 : decode cX9_bestHeard 214 = .ok (.iinc 3 1, 3) := by decide +kernel
theorem dX9_bestHeard_217 : decode cX9_bestHeard 217 = .ok (.goto (-93), 3) := by decide +kernel
theorem dX9_bestHeard_220 : decode cX9_bestHeard 220 = .ok (.iload_n 1, 1) := by decide +kernel
theorem dX9_bestHeard_221 : decode cX9_bestHeard 221 = .ok (.ireturn, 1) := by decide +kernel
def R_X9_bestHeard  (σ : kS) (x : Int32) (τ : kS) : Prop := Run SM jX9_bestHeard [(.ref 0)] σ (some (.int x)) τ
def E_X9_bestHeard_2 (l1 : Int32) (σ : kS) (x : Int32) (τ : kS) : Prop := Ex SM jX9_bestHeard 2 [some (.ref 0), some (.int l1), none, none, none, none] [] σ (some (.int x)) τ
def E_X9_bestHeard_23 (l1 : Int32) (σ : kS) (x : Int32) (τ : kS) : Prop := Ex SM jX9_bestHeard 23 [some (.ref 0), some (.int l1), none, none, none, none] [] σ (some (.int x)) τ
def E_X9_bestHeard_54 (l1 : Int32) (l2 : Int32) (l3 : Int32) (σ : kS) (x : Int32) (τ : kS) : Prop := Ex SM jX9_bestHeard 54 [some (.ref 0), some (.int l1), some (.int l2), some (.int l3), none, none] [] σ (some (.int x)) τ
def E_X9_bestHeard_124 (l1 : Int32) (l2 : Int32) (l3 : Int32) (σ : kS) (x : Int32) (τ : kS) : Prop := Ex SM jX9_bestHeard 124 [some (.ref 0), some (.int l1), some (.int l2), some (.int l3), none, none] [] σ (some (.int x)) τ
def E_X9_bestHeard_140 (l1 : Int32) (l2 : Int32) (l3 : Int32) (l4 : Int32) (l5 : Int32) (σ : kS) (x : Int32) (τ : kS) : Prop := Ex SM jX9_bestHeard 140 [some (.ref 0), some (.int l1), some (.int l2), some (.int l3), some (.int l4), some (.int l5)] [] σ (some (.int x)) τ
def E_X9_bestHeard_200 (l2 : Int32) (l3 : Int32) (l4 : Int32) (y0 : Int32) (σ : kS) (x : Int32) (τ : kS) : Prop := Ex SM jX9_bestHeard 200 [some (.ref 0), none, some (.int l2), some (.int l3), some (.int l4), none] [(.int y0)] σ (some (.int x)) τ
set_option maxRecDepth 20000 in
theorem t_X9_bestHeard  {σ : kS} {x : Int32} {τ : kS}  (h : E_X9_bestHeard_2 (0 : Int32) σ x τ) : R_X9_bestHeard  σ x τ := by
  refine x_run [some (.ref 0), none, none, none, none, none] (by decide +kernel) rfl (Nat.le_of_ble_eq_true rfl) ?_
  refine x_iconst (pc := 0) (0 : Int32) dX9_bestHeard_0 (by decide +kernel) ?_
  refine x_istore_n (pc := 1) 1 dX9_bestHeard_1 rfl (by decide) rfl ?_
  exact h
set_option maxRecDepth 20000 in
theorem t_X9_bestHeard_2 {l1 : Int32} {σ : kS} {x : Int32} {τ : kS}  (h : ((65 : Int32) ≤ l1 → E_X9_bestHeard_23 (0 : Int32) σ x τ) ∧ (¬ (65 : Int32) ≤ l1 → vp_in l1 65 ∧ (E_X9_bestHeard_2 (l1 + (1 : Int32)) (k_si σ 13 l1.toNatClampNeg (0 : Int32)) x τ))) : E_X9_bestHeard_2 l1 σ x τ := by
  unfold E_X9_bestHeard_2
  refine x_iload_n (pc := 2) 1 dX9_bestHeard_2 rfl rfl ?_
  refine x_bipush (pc := 3) (65 : Int32) dX9_bestHeard_3 (by decide +kernel) ?_
  refine x_icmp_ge (pc := 5) 21 dX9_bestHeard_5 (by decide) (fun c1 => ?_) (fun c1 => ?_)
  · replace h := h.1 c1
    refine x_iconst (pc := 21) (0 : Int32) dX9_bestHeard_21 (by decide +kernel) ?_
    refine x_istore_n (pc := 22) 1 dX9_bestHeard_22 rfl (by decide) rfl ?_
    exact h
  · replace h := h.2 c1
    refine x_aload_n (pc := 8) 0 dX9_bestHeard_8 rfl rfl ?_
    refine x_getR (pc := 9) dX9_bestHeard_9 fX9_48 rfl rfl ?_
    refine x_iload_n (pc := 12) 1 dX9_bestHeard_12 rfl rfl ?_
    refine x_iconst (pc := 13) (0 : Int32) dX9_bestHeard_13 (by decide +kernel) ?_
    obtain ⟨g2, h⟩ := h
    refine x_iastore (pc := 14) (n := 65) dX9_bestHeard_14 rfl g2 ?_
    refine x_iinc (pc := 15) (1 : Int32) dX9_bestHeard_15 (by decide) rfl rfl (by decide +kernel) ?_
    refine x_goto (pc := 18) 2 dX9_bestHeard_18 (by decide) ?_
    exact h
set_option maxRecDepth 20000 in
theorem t_X9_bestHeard_23 {l1 : Int32} {σ : kS} {x : Int32} {τ : kS}  (h : ((4096 : Int32) ≤ l1 → E_X9_bestHeard_124 (-4 : Int32) (4096 : Int32) (0 : Int32) σ x τ) ∧ (¬ (4096 : Int32) ≤ l1 → vp_in l1 4096 ∧ (((σ.1 14 l1.toNatClampNeg) = 0 → E_X9_bestHeard_54 l1 (-1 : Int32) (0 : Int32) σ x τ) ∧ (¬ (σ.1 14 l1.toNatClampNeg) = 0 → ∃ (x5 : Int32) (s4 : kS), R_X9_chordBy 5 l1 σ x5 s4 ∧ (E_X9_bestHeard_54 l1 x5 (0 : Int32) s4 x τ))))) : E_X9_bestHeard_23 l1 σ x τ := by
  unfold E_X9_bestHeard_23
  refine x_iload_n (pc := 23) 1 dX9_bestHeard_23 rfl rfl ?_
  refine x_sipush (pc := 24) (4096 : Int32) dX9_bestHeard_24 (by decide +kernel) ?_
  refine x_icmp_ge (pc := 27) 115 dX9_bestHeard_27 (by decide) (fun c1 => ?_) (fun c1 => ?_)
  · replace h := h.1 c1
    refine x_bipush (pc := 115) (-4 : Int32) dX9_bestHeard_115 (by decide +kernel) ?_
    refine x_istore_n (pc := 117) 1 dX9_bestHeard_117 rfl (by decide) rfl ?_
    refine x_sipush (pc := 118) (4096 : Int32) dX9_bestHeard_118 (by decide +kernel) ?_
    refine x_istore_n (pc := 121) 2 dX9_bestHeard_121 rfl (by decide) rfl ?_
    refine x_iconst (pc := 122) (0 : Int32) dX9_bestHeard_122 (by decide +kernel) ?_
    refine x_istore_n (pc := 123) 3 dX9_bestHeard_123 rfl (by decide) rfl ?_
    exact h
  · replace h := h.2 c1
    refine x_aload_n (pc := 30) 0 dX9_bestHeard_30 rfl rfl ?_
    refine x_getR (pc := 31) dX9_bestHeard_31 fX9_51 rfl rfl ?_
    refine x_iload_n (pc := 34) 1 dX9_bestHeard_34 rfl rfl ?_
    obtain ⟨g2, h⟩ := h
    refine x_baload (pc := 35) (n := 4096) dX9_bestHeard_35 rfl g2 ?_
    refine x_if_eq (pc := 36) 50 dX9_bestHeard_36 (by decide) (fun c3 => ?_) (fun c3 => ?_)
    · replace h := h.1 c3
      refine x_iconst (pc := 50) (-1 : Int32) dX9_bestHeard_50 (by decide +kernel) ?_
      refine x_istore_n (pc := 51) 2 dX9_bestHeard_51 rfl (by decide) rfl ?_
      refine x_iconst (pc := 52) (0 : Int32) dX9_bestHeard_52 (by decide +kernel) ?_
      refine x_istore_n (pc := 53) 3 dX9_bestHeard_53 rfl (by decide) rfl ?_
      exact h
    · replace h := h.2 c3
      refine x_aload_n (pc := 39) 0 dX9_bestHeard_39 rfl rfl ?_
      refine x_getR (pc := 40) dX9_bestHeard_40 fX9_23 rfl rfl ?_
      refine x_iload_n (pc := 43) 1 dX9_bestHeard_43 rfl rfl ?_
      obtain ⟨x5, s4, hr, h⟩ := h
      refine x_callS (pc := 44) [(.ref 5), (.int l1)] [] dX9_bestHeard_44 ⟨⟨hX9_chordBy.1, hX9_chordBy.2.1, hX9_chordBy.2.2, by decide⟩, mX9_113, sX9_chordBy⟩ rfl rfl (Nat.le_of_ble_eq_true rfl) hr ?_
      refine x_goto (pc := 47) 51 dX9_bestHeard_47 (by decide) ?_
      refine x_istore_n (pc := 51) 2 dX9_bestHeard_51 rfl (by decide) rfl ?_
      refine x_iconst (pc := 52) (0 : Int32) dX9_bestHeard_52 (by decide +kernel) ?_
      refine x_istore_n (pc := 53) 3 dX9_bestHeard_53 rfl (by decide) rfl ?_
      exact h
set_option maxRecDepth 20000 in
theorem t_X9_bestHeard_54 {l1 : Int32} {l2 : Int32} {l3 : Int32} {σ : kS} {x : Int32} {τ : kS}  (h : ((σ.1 5 3) ≤ l3 → E_X9_bestHeard_23 (l1 + (1 : Int32)) σ x τ) ∧ (¬ (σ.1 5 3) ≤ l3 → vp_in l1 4096 ∧ (((σ.1 14 l1.toNatClampNeg) = 0 → E_X9_bestHeard_23 (l1 + (1 : Int32)) σ x τ) ∧ (¬ (σ.1 14 l1.toNatClampNeg) = 0 → vp_in ((13 : Int32) + l3) 38 ∧ (∃ (x6 : Int32) (s5 : kS), R_X9_aloneSings l3 (σ.1 5 ((13 : Int32) + l3).toNatClampNeg) l1 l2 σ x6 s5 ∧ (vp_in (((13 : Int32) * l3) + x6) 65 ∧ (vp_in (((13 : Int32) * l3) + x6) 65 ∧ (E_X9_bestHeard_54 l1 l2 (l3 + (1 : Int32)) (k_si s5 13 (((13 : Int32) * l3) + x6).toNatClampNeg ((s5.1 13 (((13 : Int32) * l3) + x6).toNatClampNeg) + (1 : Int32))) x τ)))))))) : E_X9_bestHeard_54 l1 l2 l3 σ x τ := by
  unfold E_X9_bestHeard_54
  refine x_iload_n (pc := 54) 3 dX9_bestHeard_54 rfl rfl ?_
  refine x_aload_n (pc := 55) 0 dX9_bestHeard_55 rfl rfl ?_
  refine x_getR (pc := 56) dX9_bestHeard_56 fX9_23 rfl rfl ?_
  refine x_iconst (pc := 59) (3 : Int32) dX9_bestHeard_59 (by decide +kernel) ?_
  refine x_ialoadK (pc := 60) (n := 38) 3 dX9_bestHeard_60 rfl (by decide) (by decide +kernel) ?_
  refine x_icmp_ge (pc := 61) 109 dX9_bestHeard_61 (by decide) (fun c1 => ?_) (fun c1 => ?_)
  · replace h := h.1 c1
    refine x_iinc (pc := 109) (1 : Int32) dX9_bestHeard_109 (by decide) rfl rfl (by decide +kernel) ?_
    refine x_goto (pc := 112) 23 dX9_bestHeard_112 (by decide) ?_
    exact x_mask [true, true, false, false, false, false] h
  · replace h := h.2 c1
    refine x_aload_n (pc := 64) 0 dX9_bestHeard_64 rfl rfl ?_
    refine x_getR (pc := 65) dX9_bestHeard_65 fX9_51 rfl rfl ?_
    refine x_iload_n (pc := 68) 1 dX9_bestHeard_68 rfl rfl ?_
    obtain ⟨g2, h⟩ := h
    refine x_baload (pc := 69) (n := 4096) dX9_bestHeard_69 rfl g2 ?_
    refine x_if_eq (pc := 70) 109 dX9_bestHeard_70 (by decide) (fun c3 => ?_) (fun c3 => ?_)
    · replace h := h.1 c3
      refine x_iinc (pc := 109) (1 : Int32) dX9_bestHeard_109 (by decide) rfl rfl (by decide +kernel) ?_
      refine x_goto (pc := 112) 23 dX9_bestHeard_112 (by decide) ?_
      exact x_mask [true, true, false, false, false, false] h
    · replace h := h.2 c3
      refine x_aload_n (pc := 73) 0 dX9_bestHeard_73 rfl rfl ?_
      refine x_getR (pc := 74) dX9_bestHeard_74 fX9_48 rfl rfl ?_
      refine x_bipush (pc := 77) (13 : Int32) dX9_bestHeard_77 (by decide +kernel) ?_
      refine x_iload_n (pc := 79) 3 dX9_bestHeard_79 rfl rfl ?_
      refine x_imul (pc := 80) dX9_bestHeard_80 ?_
      refine x_aload_n (pc := 81) 0 dX9_bestHeard_81 rfl rfl ?_
      refine x_iload_n (pc := 82) 3 dX9_bestHeard_82 rfl rfl ?_
      refine x_aload_n (pc := 83) 0 dX9_bestHeard_83 rfl rfl ?_
      refine x_getR (pc := 84) dX9_bestHeard_84 fX9_23 rfl rfl ?_
      refine x_bipush (pc := 87) (13 : Int32) dX9_bestHeard_87 (by decide +kernel) ?_
      refine x_iload_n (pc := 89) 3 dX9_bestHeard_89 rfl rfl ?_
      refine x_iadd (pc := 90) dX9_bestHeard_90 ?_
      obtain ⟨g4, h⟩ := h
      refine x_iaload (pc := 91) (n := 38) dX9_bestHeard_91 rfl g4 ?_
      refine x_iload_n (pc := 92) 1 dX9_bestHeard_92 rfl rfl ?_
      refine x_iload_n (pc := 93) 2 dX9_bestHeard_93 rfl rfl ?_
      obtain ⟨x6, s5, hr, h⟩ := h
      refine x_callV (pc := 94) [(.int l3), (.int (σ.1 5 ((13 : Int32) + l3).toNatClampNeg)), (.int l1), (.int l2)] [(.int ((13 : Int32) * l3)), (.ref 13)] dX9_bestHeard_94 ⟨⟨hX9_aloneSings.1, hX9_aloneSings.2.1, hX9_aloneSings.2.2, by decide⟩, mX9_220, vX9_aloneSings.1, vX9_aloneSings.2⟩ (ci := 9) rfl rfl rfl rfl (Nat.le_of_ble_eq_true rfl) hr ?_
      refine x_iadd (pc := 97) dX9_bestHeard_97 ?_
      refine x_dup2 (pc := 98) dX9_bestHeard_98 rfl rfl ?_
      obtain ⟨g7, h⟩ := h
      refine x_iaload (pc := 99) (n := 65) dX9_bestHeard_99 rfl g7 ?_
      refine x_iconst (pc := 100) (1 : Int32) dX9_bestHeard_100 (by decide +kernel) ?_
      refine x_iadd (pc := 101) dX9_bestHeard_101 ?_
      obtain ⟨g8, h⟩ := h
      refine x_iastore (pc := 102) (n := 65) dX9_bestHeard_102 rfl g8 ?_
      refine x_iinc (pc := 103) (1 : Int32) dX9_bestHeard_103 (by decide) rfl rfl (by decide +kernel) ?_
      refine x_goto (pc := 106) 54 dX9_bestHeard_106 (by decide) ?_
      exact h
set_option maxRecDepth 20000 in
theorem t_X9_bestHeard_124 {l1 : Int32} {l2 : Int32} {l3 : Int32} {σ : kS} {x : Int32} {τ : kS}  (h : ((σ.1 5 3) ≤ l3 → x = l1 ∧ τ = σ) ∧ (¬ (σ.1 5 3) ≤ l3 → E_X9_bestHeard_140 l1 l2 l3 (0 : Int32) (0 : Int32) σ x τ)) : E_X9_bestHeard_124 l1 l2 l3 σ x τ := by
  unfold E_X9_bestHeard_124
  refine x_iload_n (pc := 124) 3 dX9_bestHeard_124 rfl rfl ?_
  refine x_aload_n (pc := 125) 0 dX9_bestHeard_125 rfl rfl ?_
  refine x_getR (pc := 126) dX9_bestHeard_126 fX9_23 rfl rfl ?_
  refine x_iconst (pc := 129) (3 : Int32) dX9_bestHeard_129 (by decide +kernel) ?_
  refine x_ialoadK (pc := 130) (n := 38) 3 dX9_bestHeard_130 rfl (by decide) (by decide +kernel) ?_
  refine x_icmp_ge (pc := 131) 220 dX9_bestHeard_131 (by decide) (fun c1 => ?_) (fun c1 => ?_)
  · replace h := h.1 c1
    refine x_iload_n (pc := 220) 1 dX9_bestHeard_220 rfl rfl ?_
    exact x_ireturn2 (pc := 221) dX9_bestHeard_221 rfl h.1 h.2
  · replace h := h.2 c1
    refine x_iconst (pc := 134) (0 : Int32) dX9_bestHeard_134 (by decide +kernel) ?_
    refine x_istore (pc := 135) dX9_bestHeard_135 (by decide) rfl ?_
    refine x_iconst (pc := 137) (0 : Int32) dX9_bestHeard_137 (by decide +kernel) ?_
    refine x_istore (pc := 138) dX9_bestHeard_138 (by decide) rfl ?_
    exact h
set_option maxRecDepth 20000 in
theorem t_X9_bestHeard_140 {l1 : Int32} {l2 : Int32} {l3 : Int32} {l4 : Int32} {l5 : Int32} {σ : kS} {x : Int32} {τ : kS}  (h : ((13 : Int32) ≤ l5 → (l2 ≤ l4 → E_X9_bestHeard_200 l2 l3 l4 l1 σ x τ) ∧ (¬ l2 ≤ l4 → E_X9_bestHeard_200 l2 l3 l4 l3 σ x τ)) ∧ (¬ (13 : Int32) ≤ l5 → vp_in (((13 : Int32) * l3) + l5) 65 ∧ (((σ.1 13 (((13 : Int32) * l3) + l5).toNatClampNeg) ≤ l4 → E_X9_bestHeard_140 l1 l2 l3 l4 (l5 + (1 : Int32)) σ x τ) ∧ (¬ (σ.1 13 (((13 : Int32) * l3) + l5).toNatClampNeg) ≤ l4 → vp_in (((13 : Int32) * l3) + l5) 65 ∧ (E_X9_bestHeard_140 l1 l2 l3 (σ.1 13 (((13 : Int32) * l3) + l5).toNatClampNeg) (l5 + (1 : Int32)) σ x τ))))) : E_X9_bestHeard_140 l1 l2 l3 l4 l5 σ x τ := by
  unfold E_X9_bestHeard_140
  refine x_iload (pc := 140) dX9_bestHeard_140 rfl ?_
  refine x_bipush (pc := 142) (13 : Int32) dX9_bestHeard_142 (by decide +kernel) ?_
  refine x_icmp_ge (pc := 144) 189 dX9_bestHeard_144 (by decide) (fun c1 => ?_) (fun c1 => ?_)
  · replace h := h.1 c1
    refine x_iload (pc := 189) dX9_bestHeard_189 rfl ?_
    refine x_iload_n (pc := 191) 2 dX9_bestHeard_191 rfl rfl ?_
    refine x_icmp_ge (pc := 192) 199 dX9_bestHeard_192 (by decide) (fun c2 => ?_) (fun c2 => ?_)
    · replace h := h.1 c2
      refine x_iload_n (pc := 199) 1 dX9_bestHeard_199 rfl rfl ?_
      exact x_mask [true, false, true, true, true, false] h
    · replace h := h.2 c2
      refine x_iload_n (pc := 195) 3 dX9_bestHeard_195 rfl rfl ?_
      refine x_goto (pc := 196) 200 dX9_bestHeard_196 (by decide) ?_
      exact x_mask [true, false, true, true, true, false] h
  · replace h := h.2 c1
    refine x_aload_n (pc := 147) 0 dX9_bestHeard_147 rfl rfl ?_
    refine x_getR (pc := 148) dX9_bestHeard_148 fX9_48 rfl rfl ?_
    refine x_bipush (pc := 151) (13 : Int32) dX9_bestHeard_151 (by decide +kernel) ?_
    refine x_iload_n (pc := 153) 3 dX9_bestHeard_153 rfl rfl ?_
    refine x_imul (pc := 154) dX9_bestHeard_154 ?_
    refine x_iload (pc := 155) dX9_bestHeard_155 rfl ?_
    refine x_iadd (pc := 157) dX9_bestHeard_157 ?_
    obtain ⟨g3, h⟩ := h
    refine x_iaload (pc := 158) (n := 65) dX9_bestHeard_158 rfl g3 ?_
    refine x_iload (pc := 159) dX9_bestHeard_159 rfl ?_
    refine x_icmp_le (pc := 161) 179 dX9_bestHeard_161 (by decide) (fun c4 => ?_) (fun c4 => ?_)
    · replace h := h.1 c4
      refine x_iload (pc := 179) dX9_bestHeard_179 rfl ?_
      refine x_istore (pc := 181) dX9_bestHeard_181 (by decide) rfl ?_
      refine x_iinc (pc := 183) (1 : Int32) dX9_bestHeard_183 (by decide) rfl rfl (by decide +kernel) ?_
      refine x_goto (pc := 186) 140 dX9_bestHeard_186 (by decide) ?_
      exact h
    · replace h := h.2 c4
      refine x_aload_n (pc := 164) 0 dX9_bestHeard_164 rfl rfl ?_
      refine x_getR (pc := 165) dX9_bestHeard_165 fX9_48 rfl rfl ?_
      refine x_bipush (pc := 168) (13 : Int32) dX9_bestHeard_168 (by decide +kernel) ?_
      refine x_iload_n (pc := 170) 3 dX9_bestHeard_170 rfl rfl ?_
      refine x_imul (pc := 171) dX9_bestHeard_171 ?_
      refine x_iload (pc := 172) dX9_bestHeard_172 rfl ?_
      refine x_iadd (pc := 174) dX9_bestHeard_174 ?_
      obtain ⟨g5, h⟩ := h
      refine x_iaload (pc := 175) (n := 65) dX9_bestHeard_175 rfl g5 ?_
      refine x_goto (pc := 176) 181 dX9_bestHeard_176 (by decide) ?_
      refine x_istore (pc := 181) dX9_bestHeard_181 (by decide) rfl ?_
      refine x_iinc (pc := 183) (1 : Int32) dX9_bestHeard_183 (by decide) rfl rfl (by decide +kernel) ?_
      refine x_goto (pc := 186) 140 dX9_bestHeard_186 (by decide) ?_
      exact h
set_option maxRecDepth 20000 in
theorem t_X9_bestHeard_200 {l2 : Int32} {l3 : Int32} {l4 : Int32} {y0 : Int32} {σ : kS} {x : Int32} {τ : kS}  (h : (l2 ≤ l4 → E_X9_bestHeard_124 y0 l2 (l3 + (1 : Int32)) σ x τ) ∧ (¬ l2 ≤ l4 → E_X9_bestHeard_124 y0 l4 (l3 + (1 : Int32)) σ x τ)) : E_X9_bestHeard_200 l2 l3 l4 y0 σ x τ := by
  unfold E_X9_bestHeard_200
  refine x_istore_n (pc := 200) 1 dX9_bestHeard_200 rfl (by decide) rfl ?_
  refine x_iload (pc := 201) dX9_bestHeard_201 rfl ?_
  refine x_iload_n (pc := 203) 2 dX9_bestHeard_203 rfl rfl ?_
  refine x_icmp_ge (pc := 204) 212 dX9_bestHeard_204 (by decide) (fun c1 => ?_) (fun c1 => ?_)
  · replace h := h.1 c1
    refine x_iload_n (pc := 212) 2 dX9_bestHeard_212 rfl rfl ?_
    refine x_istore_n (pc := 213) 2 dX9_bestHeard_213 rfl (by decide) rfl ?_
    refine x_iinc (pc := 214) (1 : Int32) dX9_bestHeard_214 (by decide) rfl rfl (by decide +kernel) ?_
    refine x_goto (pc := 217) 124 dX9_bestHeard_217 (by decide) ?_
    exact x_mask [true, true, true, true, false, false] h
  · replace h := h.2 c1
    refine x_iload (pc := 207) dX9_bestHeard_207 rfl ?_
    refine x_goto (pc := 209) 213 dX9_bestHeard_209 (by decide) ?_
    refine x_istore_n (pc := 213) 2 dX9_bestHeard_213 rfl (by decide) rfl ?_
    refine x_iinc (pc := 214) (1 : Int32) dX9_bestHeard_214 (by decide) rfl rfl (by decide +kernel) ?_
    refine x_goto (pc := 217) 124 dX9_bestHeard_217 (by decide) ?_
    exact x_mask [true, true, true, true, false, false] h
theorem dX9_sounded_0 : decode cX9_sounded 0 = .ok (.aload_n 0, 1) := by decide +kernel
theorem dX9_sounded_1 : decode cX9_sounded 1 = .ok (.invokevirtual 110, 3) := by decide +kernel
theorem dX9_sounded_4 : decode cX9_sounded 4 = .ok (.ifCond .eq 40, 3) := by decide +kernel
theorem dX9_sounded_7 : decode cX9_sounded 7 = .ok (.iload_n 1, 1) := by decide +kernel
theorem dX9_sounded_8 : decode cX9_sounded 8 = .ok (.invokestatic 207, 3) := by decide +kernel
theorem dX9_sounded_11 : decode cX9_sounded 11 = .ok (.ifCond .eq 33, 3) := by decide +kernel
theorem dX9_sounded_14 : decode cX9_sounded 14 = .ok (.iload_n 2, 1) := by decide +kernel
theorem dX9_sounded_15 : decode cX9_sounded 15 = .ok (.iconst 0, 1) := by decide +kernel
theorem dX9_sounded_16 : decode cX9_sounded 16 = .ok (.iconst 3, 1) := by decide +kernel
theorem dX9_sounded_17 : decode cX9_sounded 17 = .ok (.invokestatic 54, 3) := by decide +kernel
theorem dX9_sounded_20 : decode cX9_sounded 20 = .ok (.ifCond .eq 24, 3) := by decide +kernel
theorem dX9_sounded_23 : decode cX9_sounded 23 = .ok (.iload 4, 2) := by decide +kernel
theorem dX9_sounded_25 : decode cX9_sounded 25 = .ok (.iconst 1, 1) := by decide +kernel
theorem dX9_sounded_26 : decode cX9_sounded 26 = .ok (.bipush 6, 2) := by decide +kernel
theorem dX9_sounded_28 : decode cX9_sounded 28 = .ok (.invokestatic 54, 3) := by decide +kernel
theorem dX9_sounded_31 : decode cX9_sounded 31 = .ok (.ifCond .eq 13, 3) := by decide +kernel
theorem dX9_sounded_34 : decode cX9_sounded 34 = .ok (.iload 5, 2) := by decide +kernel
theorem dX9_sounded_36 : decode cX9_sounded 36 = .ok (.iconst 0, 1) := by decide +kernel
theorem dX9_sounded_37 : decode cX9_sounded 37 = .ok (.iconst 2, 1) := by decide +kernel
theorem dX9_sounded_38 : decode cX9_sounded 38 = .ok (.invokestatic 54, 3) := by decide +kernel
theorem dX9_sounded_41 : decode cX9_sounded 41 = .ok (.ifCond .ne 5, 3) := by decide +kernel
theorem dX9_sounded_44 : decode cX9_sounded 44 = .ok (.iconst (-1), 1) := by decide +kernel
theorem dX9_sounded_45 : decode cX9_sounded 45 = .ok (.ireturn, 1) := by decide +kernel
theorem dX9_sounded_46 : decode cX9_sounded 46 = .ok (.aload_n 0, 1) := by decide +kernel
theorem dX9_sounded_47 : decode cX9_sounded 47 = .ok (.iload_n 1, 1) := by decide +kernel
theorem dX9_sounded_48 : decode cX9_sounded 48 = .ok (.iload_n 2, 1) := by decide +kernel
theorem dX9_sounded_49 : decode cX9_sounded 49 = .ok (.iload_n 3, 1) := by decide +kernel
theorem dX9_sounded_50 : decode cX9_sounded 50 = .ok (.iconst 2, 1) := by decide +kernel
theorem dX9_sounded_51 : decode cX9_sounded 51 = .ok (.iload 4, 2) := by decide +kernel
theorem dX9_sounded_53 : decode cX9_sounded 53 = .ok (.imul, 1) := by decide +kernel
theorem dX9_sounded_54 : decode cX9_sounded 54 = .ok (.invokevirtual 212, 3) := by decide +kernel
theorem dX9_sounded_57 : decode cX9_sounded 57 = .ok (.istore 6, 2) := by decide +kernel
theorem dX9_sounded_59 : decode cX9_sounded 59 = .ok (.iload 6, 2) := by decide +kernel
theorem dX9_sounded_61 : decode cX9_sounded 61 = .ok (.ifCond .eq 6, 3) := by decide +kernel
theorem dX9_sounded_64 : decode cX9_sounded 64 = .ok (.iload 6, 2) := by decide +kernel
theorem dX9_sounded_66 : decode cX9_sounded 66 = .ok (.ireturn, 1) := by decide +kernel
theorem dX9_sounded_67 : decode cX9_sounded 67 = .ok (.aload_n 0, 1) := by decide +kernel
theorem dX9_sounded_68 : decode cX9_sounded 68 = .ok (.bipush 24, 2) := by decide +kernel
theorem dX9_sounded_70 : decode cX9_sounded 70 = .ok (.iload_n 1, 1) := by decide +kernel
theorem dX9_sounded_71 : decode cX9_sounded 71 = .ok (.imul, 1) := by decide +kernel
theorem dX9_sounded_72 : decode cX9_sounded 72 = .ok (.iload_n 3, 1) := by decide +kernel
theorem dX9_sounded_73 : decode cX9_sounded 73 = .ok (.iadd, 1) := by decide +kernel
theorem dX9_sounded_74 : decode cX9_sounded 74 = .ok (.iload 4, 2) := by decide +kernel
theorem dX9_sounded_76 : decode cX9_sounded 76 = .ok (.aload_n 0, 1) := by decide +kernel
theorem dX9_sounded_77 : decode cX9_sounded 77 = .ok (.getfield 23, 3) := by decide +kernel
theorem dX9_sounded_80 : decode cX9_sounded 80 = .ok (.iconst 3, 1) := by decide +kernel
theorem dX9_sounded_81 : decode cX9_sounded 81 = .ok (.iaload, 1) := by decide +kernel
theorem dX9_sounded_82 : decode cX9_sounded 82 = .ok (.bipush 13, 2) := by decide +kernel
theorem dX9_sounded_84 : decode cX9_sounded 84 = .ok (.invokevirtual 223, 3) := by decide +kernel
theorem dX9_sounded_87 : decode cX9_sounded 87 = .ok (.ifCond .ne 6, 3) := by decide +kernel
theorem dX9_sounded_90 : decode cX9_sounded 90 = .ok (.bipush (-2), 2) := by decide +kernel
theorem dX9_sounded_92 : decode cX9_sounded 92 = .ok (.ireturn, 1) := by decide +kernel
theorem dX9_sounded_93 : decode cX9_sounded 93 = .ok (.aload_n 0, 1) := by decide +kernel
theorem dX9_sounded_94 : decode cX9_sounded 94 = .ok (.bipush 24, 2) := by decide +kernel
theorem dX9_sounded_96 : decode cX9_sounded 96 = .ok (.iload_n 1, 1) := by decide +kernel
theorem dX9_sounded_97 : decode cX9_sounded 97 = .ok (.imul, 1) := by decide +kernel
theorem dX9_sounded_98 : decode cX9_sounded 98 = .ok (.iload_n 3, 1) := by decide +kernel
theorem dX9_sounded_99 : decode cX9_sounded 99 = .ok (.iadd, 1) := by decide +kernel
theorem dX9_sounded_100 : decode cX9_sounded 100 = .ok (.iload 4, 2) := by decide +kernel
theorem dX9_sounded_102 : decode cX9_sounded 102 = .ok (.invokevirtual 227, 3) := by decide +kernel
theorem dX9_sounded_105 : decode cX9_sounded 105 = .ok (.istore 7, 2) := by decide +kernel
theorem dX9_sounded_107 : decode cX9_sounded 107 = .ok (.iload 5, 2) := by decide +kernel
theorem dX9_sounded_109 : decode cX9_sounded 109 = .ok (.ifCond .ne 8, 3) := by decide +kernel
theorem dX9_sounded_112 : decode cX9_sounded 112 = .ok (.iload 7, 2) := by decide +kernel
theorem dX9_sounded_114 : decode cX9_sounded 114 = .ok (.goto 30, 3) := by decide +kernel
theorem dX9_sounded_117 : decode cX9_sounded 117 = .ok (.iload 5, 2) := by decide +kernel
theorem dX9_sounded_119 : decode cX9_sounded 119 = .ok (.iconst 1, 1) := by decide +kernel
theorem dX9_sounded_120 : decode cX9_sounded 120 = .ok (.if_icmp .ne 10, 3) := by decide +kernel
theorem dX9_sounded_123 : decode cX9_sounded 123 = .ok (.aload_n 0, 1) := by decide +kernel
theorem dX9_sounded_124 : decode cX9_sounded 124 = .ok (.invokevirtual 230, 3) := by decide +kernel
theorem dX9_sounded_127 : decode cX9_sounded 127 = .ok (.goto 17, 3) := by decide +kernel
theorem dX9_sounded_130 : decode cX9_sounded 130 = .ok (.iload 7, 2) := by decide +kernel
theorem dX9_sounded_132 : decode cX9_sounded 132 = .ok (.ifCond .ne 8, 3) := by decide +kernel
theorem dX9_sounded_135 : decode cX9_sounded 135 = .ok (.bipush (-4), 2) := by decide +kernel
theorem dX9_sounded_137 : decode cX9_sounded 137 = .ok (.goto 7, 3) := by decide +kernel
theorem dX9_sounded_140 : decode cX9_sounded 140 = .ok (.aload_n 0, 1) := by decide +kernel
theorem dX9_sounded_141 : decode cX9_sounded 141 = .ok (.invokevirtual 233, 3) := by decide +kernel
theorem dX9_sounded_144 : decode cX9_sounded 144 = .ok (.ireturn, 1) := by decide +kernel
def R_X9_sounded (a1 : Int32) (a2 : Int32) (a3 : Int32) (a4 : Int32) (a5 : Int32) (σ : kS) (x : Int32) (τ : kS) : Prop := Run SM jX9_sounded [(.ref 0), (.int a1), (.int a2), (.int a3), (.int a4), (.int a5)] σ (some (.int x)) τ
set_option maxRecDepth 20000 in
theorem t_X9_sounded {a1 : Int32} {a2 : Int32} {a3 : Int32} {a4 : Int32} {a5 : Int32} {σ : kS} {x : Int32} {τ : kS}  (h : (¬ (0 < (σ.1 5 1)) → x = (-1 : Int32) ∧ τ = σ) ∧ ((0 < (σ.1 5 1)) → (¬ (iv a1 0 3) → x = (-1 : Int32) ∧ τ = σ) ∧ ((iv a1 0 3) → (¬ (iv a2 (0 : Int32) (3 : Int32)) → x = (-1 : Int32) ∧ τ = σ) ∧ ((iv a2 (0 : Int32) (3 : Int32)) → (¬ (iv a4 (1 : Int32) (6 : Int32)) → x = (-1 : Int32) ∧ τ = σ) ∧ ((iv a4 (1 : Int32) (6 : Int32)) → ((iv a5 (0 : Int32) (2 : Int32)) → ∃ (x7 : Int32) (s6 : kS), R_X9_badRow a1 a2 a3 ((2 : Int32) * a4) σ x7 s6 ∧ ((x7 = 0 → ∃ (x10 : Int32) (s9 : kS), R_X9_areBelow (((24 : Int32) * a1) + a3) a4 (s6.1 5 3) (13 : Int32) s6 x10 s9 ∧ ((¬ x10 = 0 → ∃ (x13 : Int32) (s12 : kS), R_X9_layFits (((24 : Int32) * a1) + a3) a4 s9 x13 s12 ∧ ((¬ a5 = 0 → (¬ a5 = (1 : Int32) → (¬ x13 = 0 → ∃ (x18 : Int32) (s17 : kS), R_X9_bestHeard  s12 x18 s17 ∧ (x = x18 ∧ τ = s17)) ∧ (x13 = 0 → x = (-4 : Int32) ∧ τ = s12)) ∧ (a5 = (1 : Int32) → ∃ (x20 : Int32) (s19 : kS), R_X9_leastFit  s12 x20 s19 ∧ (x = x20 ∧ τ = s19))) ∧ (a5 = 0 → x = x13 ∧ τ = s12))) ∧ (x10 = 0 → x = (-2 : Int32) ∧ τ = s9))) ∧ (¬ x7 = 0 → x = x7 ∧ τ = s6))) ∧ (¬ (iv a5 (0 : Int32) (2 : Int32)) → x = (-1 : Int32) ∧ τ = σ)))))) : R_X9_sounded a1 a2 a3 a4 a5 σ x τ := by
  refine x_run [some (.ref 0), some (.int a1), some (.int a2), some (.int a3), some (.int a4), some (.int a5), none, none] (by decide +kernel) rfl (Nat.le_of_ble_eq_true rfl) ?_
  refine x_aload_n (pc := 0) 0 dX9_sounded_0 rfl rfl ?_
  refine x_callV (pc := 1) [] [] dX9_sounded_1 ⟨⟨hX9_isThere.1, hX9_isThere.2.1, hX9_isThere.2.2, by decide⟩, mX9_110, vX9_isThere.1, vX9_isThere.2⟩ (ci := 9) rfl rfl rfl rfl (Nat.le_of_ble_eq_true rfl) (i_X9_isThere) ?_
  refine x_bif_eq (pc := 4) 44 dX9_sounded_4 (by decide) (fun c1 => ?_) (fun c1 => ?_)
  · replace h := h.1 c1
    refine x_iconst (pc := 44) (-1 : Int32) dX9_sounded_44 (by decide +kernel) ?_
    exact x_ireturn2 (pc := 45) dX9_sounded_45 rfl h.1 h.2
  · replace h := h.2 c1
    refine x_iload_n (pc := 7) 1 dX9_sounded_7 rfl rfl ?_
    refine x_callS (pc := 8) [(.int a1)] [] dX9_sounded_8 ⟨⟨hX9_isSheet.1, hX9_isSheet.2.1, hX9_isSheet.2.2, by decide⟩, mX9_207, sX9_isSheet⟩ rfl rfl (Nat.le_of_ble_eq_true rfl) (i_X9_isSheet) ?_
    refine x_bif_eq (pc := 11) 44 dX9_sounded_11 (by decide) (fun c2 => ?_) (fun c2 => ?_)
    · replace h := h.1 c2
      refine x_iconst (pc := 44) (-1 : Int32) dX9_sounded_44 (by decide +kernel) ?_
      exact x_ireturn2 (pc := 45) dX9_sounded_45 rfl h.1 h.2
    · replace h := h.2 c2
      refine x_iload_n (pc := 14) 2 dX9_sounded_14 rfl rfl ?_
      refine x_iconst (pc := 15) (0 : Int32) dX9_sounded_15 (by decide +kernel) ?_
      refine x_iconst (pc := 16) (3 : Int32) dX9_sounded_16 (by decide +kernel) ?_
      refine x_callS (pc := 17) [(.int a2), (.int (0 : Int32)), (.int (3 : Int32))] [] dX9_sounded_17 ⟨⟨hX9_in.1, hX9_in.2.1, hX9_in.2.2, by decide⟩, mX9_54, sX9_in⟩ rfl rfl (Nat.le_of_ble_eq_true rfl) (i_X9_in) ?_
      refine x_bif_eq (pc := 20) 44 dX9_sounded_20 (by decide) (fun c3 => ?_) (fun c3 => ?_)
      · replace h := h.1 c3
        refine x_iconst (pc := 44) (-1 : Int32) dX9_sounded_44 (by decide +kernel) ?_
        exact x_ireturn2 (pc := 45) dX9_sounded_45 rfl h.1 h.2
      · replace h := h.2 c3
        refine x_iload (pc := 23) dX9_sounded_23 rfl ?_
        refine x_iconst (pc := 25) (1 : Int32) dX9_sounded_25 (by decide +kernel) ?_
        refine x_bipush (pc := 26) (6 : Int32) dX9_sounded_26 (by decide +kernel) ?_
        refine x_callS (pc := 28) [(.int a4), (.int (1 : Int32)), (.int (6 : Int32))] [] dX9_sounded_28 ⟨⟨hX9_in.1, hX9_in.2.1, hX9_in.2.2, by decide⟩, mX9_54, sX9_in⟩ rfl rfl (Nat.le_of_ble_eq_true rfl) (i_X9_in) ?_
        refine x_bif_eq (pc := 31) 44 dX9_sounded_31 (by decide) (fun c4 => ?_) (fun c4 => ?_)
        · replace h := h.1 c4
          refine x_iconst (pc := 44) (-1 : Int32) dX9_sounded_44 (by decide +kernel) ?_
          exact x_ireturn2 (pc := 45) dX9_sounded_45 rfl h.1 h.2
        · replace h := h.2 c4
          refine x_iload (pc := 34) dX9_sounded_34 rfl ?_
          refine x_iconst (pc := 36) (0 : Int32) dX9_sounded_36 (by decide +kernel) ?_
          refine x_iconst (pc := 37) (2 : Int32) dX9_sounded_37 (by decide +kernel) ?_
          refine x_callS (pc := 38) [(.int a5), (.int (0 : Int32)), (.int (2 : Int32))] [] dX9_sounded_38 ⟨⟨hX9_in.1, hX9_in.2.1, hX9_in.2.2, by decide⟩, mX9_54, sX9_in⟩ rfl rfl (Nat.le_of_ble_eq_true rfl) (i_X9_in) ?_
          refine x_bif_ne (pc := 41) 46 dX9_sounded_41 (by decide) (fun c5 => ?_) (fun c5 => ?_)
          · replace h := h.1 c5
            refine x_aload_n (pc := 46) 0 dX9_sounded_46 rfl rfl ?_
            refine x_iload_n (pc := 47) 1 dX9_sounded_47 rfl rfl ?_
            refine x_iload_n (pc := 48) 2 dX9_sounded_48 rfl rfl ?_
            refine x_iload_n (pc := 49) 3 dX9_sounded_49 rfl rfl ?_
            refine x_iconst (pc := 50) (2 : Int32) dX9_sounded_50 (by decide +kernel) ?_
            refine x_iload (pc := 51) dX9_sounded_51 rfl ?_
            refine x_imul (pc := 53) dX9_sounded_53 ?_
            obtain ⟨x7, s6, hr, h⟩ := h
            refine x_callV (pc := 54) [(.int a1), (.int a2), (.int a3), (.int ((2 : Int32) * a4))] [] dX9_sounded_54 ⟨⟨hX9_badRow.1, hX9_badRow.2.1, hX9_badRow.2.2, by decide⟩, mX9_212, vX9_badRow.1, vX9_badRow.2⟩ (ci := 9) rfl rfl rfl rfl (Nat.le_of_ble_eq_true rfl) hr ?_
            refine x_istore (pc := 57) dX9_sounded_57 (by decide) rfl ?_
            refine x_iload (pc := 59) dX9_sounded_59 rfl ?_
            refine x_if_eq (pc := 61) 67 dX9_sounded_61 (by decide) (fun c8 => ?_) (fun c8 => ?_)
            · replace h := h.1 c8
              refine x_aload_n (pc := 67) 0 dX9_sounded_67 rfl rfl ?_
              refine x_bipush (pc := 68) (24 : Int32) dX9_sounded_68 (by decide +kernel) ?_
              refine x_iload_n (pc := 70) 1 dX9_sounded_70 rfl rfl ?_
              refine x_imul (pc := 71) dX9_sounded_71 ?_
              refine x_iload_n (pc := 72) 3 dX9_sounded_72 rfl rfl ?_
              refine x_iadd (pc := 73) dX9_sounded_73 ?_
              refine x_iload (pc := 74) dX9_sounded_74 rfl ?_
              refine x_aload_n (pc := 76) 0 dX9_sounded_76 rfl rfl ?_
              refine x_getR (pc := 77) dX9_sounded_77 fX9_23 rfl rfl ?_
              refine x_iconst (pc := 80) (3 : Int32) dX9_sounded_80 (by decide +kernel) ?_
              refine x_ialoadK (pc := 81) (n := 38) 3 dX9_sounded_81 rfl (by decide) (by decide +kernel) ?_
              refine x_bipush (pc := 82) (13 : Int32) dX9_sounded_82 (by decide +kernel) ?_
              obtain ⟨x10, s9, hr, h⟩ := h
              refine x_callV (pc := 84) [(.int (((24 : Int32) * a1) + a3)), (.int a4), (.int (s6.1 5 3)), (.int (13 : Int32))] [] dX9_sounded_84 ⟨⟨hX9_areBelow.1, hX9_areBelow.2.1, hX9_areBelow.2.2, by decide⟩, mX9_223, vX9_areBelow.1, vX9_areBelow.2⟩ (ci := 9) rfl rfl rfl rfl (Nat.le_of_ble_eq_true rfl) hr ?_
              refine x_if_ne (pc := 87) 93 dX9_sounded_87 (by decide) (fun c11 => ?_) (fun c11 => ?_)
              · replace h := h.1 c11
                refine x_aload_n (pc := 93) 0 dX9_sounded_93 rfl rfl ?_
                refine x_bipush (pc := 94) (24 : Int32) dX9_sounded_94 (by decide +kernel) ?_
                refine x_iload_n (pc := 96) 1 dX9_sounded_96 rfl rfl ?_
                refine x_imul (pc := 97) dX9_sounded_97 ?_
                refine x_iload_n (pc := 98) 3 dX9_sounded_98 rfl rfl ?_
                refine x_iadd (pc := 99) dX9_sounded_99 ?_
                refine x_iload (pc := 100) dX9_sounded_100 rfl ?_
                obtain ⟨x13, s12, hr, h⟩ := h
                refine x_callV (pc := 102) [(.int (((24 : Int32) * a1) + a3)), (.int a4)] [] dX9_sounded_102 ⟨⟨hX9_layFits.1, hX9_layFits.2.1, hX9_layFits.2.2, by decide⟩, mX9_227, vX9_layFits.1, vX9_layFits.2⟩ (ci := 9) rfl rfl rfl rfl (Nat.le_of_ble_eq_true rfl) hr ?_
                refine x_istore (pc := 105) dX9_sounded_105 (by decide) rfl ?_
                refine x_iload (pc := 107) dX9_sounded_107 rfl ?_
                refine x_if_ne (pc := 109) 117 dX9_sounded_109 (by decide) (fun c14 => ?_) (fun c14 => ?_)
                · replace h := h.1 c14
                  refine x_iload (pc := 117) dX9_sounded_117 rfl ?_
                  refine x_iconst (pc := 119) (1 : Int32) dX9_sounded_119 (by decide +kernel) ?_
                  refine x_icmp_ne (pc := 120) 130 dX9_sounded_120 (by decide) (fun c15 => ?_) (fun c15 => ?_)
                  · replace h := h.1 c15
                    refine x_iload (pc := 130) dX9_sounded_130 rfl ?_
                    refine x_if_ne (pc := 132) 140 dX9_sounded_132 (by decide) (fun c16 => ?_) (fun c16 => ?_)
                    · replace h := h.1 c16
                      refine x_aload_n (pc := 140) 0 dX9_sounded_140 rfl rfl ?_
                      obtain ⟨x18, s17, hr, h⟩ := h
                      refine x_callV (pc := 141) [] [] dX9_sounded_141 ⟨⟨hX9_bestHeard.1, hX9_bestHeard.2.1, hX9_bestHeard.2.2, by decide⟩, mX9_233, vX9_bestHeard.1, vX9_bestHeard.2⟩ (ci := 9) rfl rfl rfl rfl (Nat.le_of_ble_eq_true rfl) hr ?_
                      exact x_ireturn2 (pc := 144) dX9_sounded_144 rfl h.1 h.2
                    · replace h := h.2 c16
                      refine x_bipush (pc := 135) (-4 : Int32) dX9_sounded_135 (by decide +kernel) ?_
                      refine x_goto (pc := 137) 144 dX9_sounded_137 (by decide) ?_
                      exact x_ireturn2 (pc := 144) dX9_sounded_144 rfl h.1 h.2
                  · replace h := h.2 c15
                    refine x_aload_n (pc := 123) 0 dX9_sounded_123 rfl rfl ?_
                    obtain ⟨x20, s19, hr, h⟩ := h
                    refine x_callV (pc := 124) [] [] dX9_sounded_124 ⟨⟨hX9_leastFit.1, hX9_leastFit.2.1, hX9_leastFit.2.2, by decide⟩, mX9_230, vX9_leastFit.1, vX9_leastFit.2⟩ (ci := 9) rfl rfl rfl rfl (Nat.le_of_ble_eq_true rfl) hr ?_
                    refine x_goto (pc := 127) 144 dX9_sounded_127 (by decide) ?_
                    exact x_ireturn2 (pc := 144) dX9_sounded_144 rfl h.1 h.2
                · replace h := h.2 c14
                  refine x_iload (pc := 112) dX9_sounded_112 rfl ?_
                  refine x_goto (pc := 114) 144 dX9_sounded_114 (by decide) ?_
                  exact x_ireturn2 (pc := 144) dX9_sounded_144 rfl h.1 h.2
              · replace h := h.2 c11
                refine x_bipush (pc := 90) (-2 : Int32) dX9_sounded_90 (by decide +kernel) ?_
                exact x_ireturn2 (pc := 92) dX9_sounded_92 rfl h.1 h.2
            · replace h := h.2 c8
              refine x_iload (pc := 64) dX9_sounded_64 rfl ?_
              exact x_ireturn2 (pc := 66) dX9_sounded_66 rfl h.1 h.2
          · replace h := h.2 c5
            refine x_iconst (pc := 44) (-1 : Int32) dX9_sounded_44 (by decide +kernel) ?_
            exact x_ireturn2 (pc := 45) dX9_sounded_45 rfl h.1 h.2
theorem dX9_kinds_0 : decode cX9_kinds 0 = .ok (.aload_n 0, 1) := by decide +kernel
theorem dX9_kinds_1 : decode cX9_kinds 1 = .ok (.iload_n 1, 1) := by decide +kernel
theorem dX9_kinds_2 : decode cX9_kinds 2 = .ok (.invokevirtual 130, 3) := by decide +kernel
theorem dX9_kinds_5 : decode cX9_kinds 5 = .ok (.ifCond .eq 30, 3) := by decide +kernel
theorem dX9_kinds_8 : decode cX9_kinds 8 = .ok (.iload_n 2, 1) := by decide +kernel
theorem dX9_kinds_9 : decode cX9_kinds 9 = .ok (.invokestatic 207, 3) := by decide +kernel
theorem dX9_kinds_12 : decode cX9_kinds 12 = .ok (.ifCond .eq 23, 3) := by decide +kernel
theorem dX9_kinds_15 : decode cX9_kinds 15 = .ok (.iload_n 3, 1) := by decide +kernel
theorem dX9_kinds_16 : decode cX9_kinds 16 = .ok (.iconst 0, 1) := by decide +kernel
theorem dX9_kinds_17 : decode cX9_kinds 17 = .ok (.iconst 3, 1) := by decide +kernel
theorem dX9_kinds_18 : decode cX9_kinds 18 = .ok (.invokestatic 54, 3) := by decide +kernel
theorem dX9_kinds_21 : decode cX9_kinds 21 = .ok (.ifCond .eq 14, 3) := by decide +kernel
theorem dX9_kinds_24 : decode cX9_kinds 24 = .ok (.iload 5, 2) := by decide +kernel
theorem dX9_kinds_26 : decode cX9_kinds 26 = .ok (.iconst 1, 1) := by decide +kernel
theorem dX9_kinds_27 : decode cX9_kinds 27 = .ok (.bipush 6, 2) := by decide +kernel
theorem dX9_kinds_29 : decode cX9_kinds 29 = .ok (.invokestatic 54, 3) := by decide +kernel
theorem dX9_kinds_32 : decode cX9_kinds 32 = .ok (.ifCond .ne 5, 3) := by decide +kernel
theorem dX9_kinds_35 : decode cX9_kinds 35 = .ok (.iconst (-1), 1) := by decide +kernel
theorem dX9_kinds_36 : decode cX9_kinds 36 = .ok (.ireturn, 1) := by decide +kernel
theorem dX9_kinds_37 : decode cX9_kinds 37 = .ok (.aload_n 0, 1) := by decide +kernel
theorem dX9_kinds_38 : decode cX9_kinds 38 = .ok (.iload_n 2, 1) := by decide +kernel
theorem dX9_kinds_39 : decode cX9_kinds 39 = .ok (.iload_n 3, 1) := by decide +kernel
theorem dX9_kinds_40 : decode cX9_kinds 40 = .ok (.iload 4, 2) := by decide +kernel
theorem dX9_kinds_42 : decode cX9_kinds 42 = .ok (.iconst 2, 1) := by decide +kernel
theorem dX9_kinds_43 : decode cX9_kinds 43 = .ok (.iload 5, 2) := by decide +kernel
theorem dX9_kinds_45 : decode cX9_kinds 45 = .ok (.imul, 1) := by decide +kernel
theorem dX9_kinds_46 : decode cX9_kinds 46 = .ok (.invokevirtual 212, 3) := by decide +kernel
theorem dX9_kinds_49 : decode cX9_kinds 49 = .ok (.istore 6, 2) := by decide +kernel
theorem dX9_kinds_51 : decode cX9_kinds 51 = .ok (.iload 6, 2) := by decide +kernel
theorem dX9_kinds_53 : decode cX9_kinds 53 = .ok (.ifCond .eq 6, 3) := by decide +kernel
theorem dX9_kinds_56 : decode cX9_kinds 56 = .ok (.iload 6, 2) := by decide +kernel
theorem dX9_kinds_58 : decode cX9_kinds 58 = .ok (.ireturn, 1) := by decide +kernel
theorem dX9_kinds_59 : decode cX9_kinds 59 = .ok (.bipush 24, 2) := by decide +kernel
theorem dX9_kinds_61 : decode cX9_kinds 61 = .ok (.iload_n 2, 1) := by decide +kernel
theorem dX9_kinds_62 : decode cX9_kinds 62 = .ok (.imul, 1) := by decide +kernel
theorem dX9_kinds_63 : decode cX9_kinds 63 = .ok (.iload 4, 2) := by decide +kernel
theorem dX9_kinds_65 : decode cX9_kinds 65 = .ok (.iadd, 1) := by decide +kernel
theorem dX9_kinds_66 : decode cX9_kinds 66 = .ok (.istore 7, 2) := by decide +kernel
theorem dX9_kinds_68 : decode cX9_kinds 68 = .ok (.aload_n 0, 1) := by decide +kernel
theorem dX9_kinds_69 : decode cX9_kinds 69 = .ok (.iload 7, 2) := by decide +kernel
theorem dX9_kinds_71 : decode cX9_kinds 71 = .ok (.iload 5, 2) := by decide +kernel
theorem dX9_kinds_73 : decode cX9_kinds 73 = .ok (.sipush 4096, 3) := by decide +kernel
theorem dX9_kinds_76 : decode cX9_kinds 76 = .ok (.bipush 13, 2) := by decide +kernel
theorem dX9_kinds_78 : decode cX9_kinds 78 = .ok (.invokevirtual 223, 3) := by decide +kernel
theorem dX9_kinds_81 : decode cX9_kinds 81 = .ok (.ifCond .ne 6, 3) := by decide +kernel
theorem dX9_kinds_84 : decode cX9_kinds 84 = .ok (.bipush (-2), 2) := by decide +kernel
theorem dX9_kinds_86 : decode cX9_kinds 86 = .ok (.ireturn, 1) := by decide +kernel
theorem dX9_kinds_87 : decode cX9_kinds 87 = .ok (.iconst 0, 1) := by decide +kernel
theorem dX9_kinds_88 : decode cX9_kinds 88 = .ok (.istore 8, 2) := by decide +kernel
theorem dX9_kinds_90 : decode cX9_kinds 90 = .ok (.iconst 1, 1) := by decide +kernel
theorem dX9_kinds_91 : decode cX9_kinds 91 = .ok (.istore 9, 2) := by decide +kernel
theorem dX9_kinds_93 : decode cX9_kinds 93 = .ok (.iload 9, 2) := by decide +kernel
theorem dX9_kinds_95 : decode cX9_kinds 95 = .ok (.iconst 5, 1) := by decide +kernel
theorem dX9_kinds_96 : decode cX9_kinds 96 = .ok (.if_icmp .gt 110, 3) := by decide +kernel
theorem dX9_kinds_99 : decode cX9_kinds 99 = .ok (.iconst 1, 1) := by decide +kernel
theorem dX9_kinds_100 : decode cX9_kinds 100 = .ok (.istore 10, 2) := by decide +kernel
theorem dX9_kinds_102 : decode cX9_kinds 102 = .ok (.iconst 0, 1) := by decide +kernel
theorem dX9_kinds_103 : decode cX9_kinds 103 = .ok (.istore 11, 2) := by decide +kernel
theorem dX9_kinds_105 : decode cX9_kinds 105 = .ok (.iload 11, 2) := by decide +kernel
theorem dX9_kinds_107 : decode cX9_kinds 107 = .ok (.iload 5, 2) := by decide +kernel
theorem dX9_kinds_109 : decode cX9_kinds 109 = .ok (.if_icmp .ge 73, 3) := by decide +kernel
theorem dX9_kinds_112 : decode cX9_kinds 112 = .ok (.iload 10, 2) := by decide +kernel
theorem dX9_kinds_114 : decode cX9_kinds 114 = .ok (.ifCond .eq 68, 3) := by decide +kernel
theorem dX9_kinds_117 : decode cX9_kinds 117 = .ok (.aload_n 0, 1) := by decide +kernel
theorem dX9_kinds_118 : decode cX9_kinds 118 = .ok (.getfield 16, 3) := by decide +kernel
theorem dX9_kinds_121 : decode cX9_kinds 121 = .ok (.iload 7, 2) := by decide +kernel
theorem dX9_kinds_123 : decode cX9_kinds 123 = .ok (.iconst 2, 1) := by decide +kernel
theorem dX9_kinds_124 : decode cX9_kinds 124 = .ok (.iload 11, 2) := by decide +kernel
theorem dX9_kinds_126 : decode cX9_kinds 126 = .ok (.imul, 1) := by decide +kernel
theorem dX9_kinds_127 : decode cX9_kinds 127 = .ok (.iadd, 1) := by decide +kernel
theorem dX9_kinds_128 : decode cX9_kinds 128 = .ok (.laload, 1) := by decide +kernel
theorem dX9_kinds_129 : decode cX9_kinds 129 = .ok (.l2i, 1) := by decide +kernel
theorem dX9_kinds_130 : decode cX9_kinds 130 = .ok (.istore 12, 2) := by decide +kernel
theorem dX9_kinds_132 : decode cX9_kinds 132 = .ok (.aload_n 0, 1) := by decide +kernel
theorem dX9_kinds_133 : decode cX9_kinds 133 = .ok (.iload_n 1, 1) := by decide +kernel
theorem dX9_kinds_134 : decode cX9_kinds 134 = .ok (.iload 9, 2) := by decide +kernel
theorem dX9_kinds_136 : decode cX9_kinds 136 = .ok (.iload 12, 2) := by decide +kernel
theorem dX9_kinds_138 : decode cX9_kinds 138 = .ok (.aload_n 0, 1) := by decide +kernel
theorem dX9_kinds_139 : decode cX9_kinds 139 = .ok (.getfield 23, 3) := by decide +kernel
theorem dX9_kinds_142 : decode cX9_kinds 142 = .ok (.iload 12, 2) := by decide +kernel
theorem dX9_kinds_144 : decode cX9_kinds 144 = .ok (.invokestatic 113, 3) := by decide +kernel
theorem dX9_kinds_147 : decode cX9_kinds 147 = .ok (.invokevirtual 220, 3) := by decide +kernel
theorem dX9_kinds_150 : decode cX9_kinds 150 = .ok (.i2l, 1) := by decide +kernel
theorem dX9_kinds_151 : decode cX9_kinds 151 = .ok (.aload_n 0, 1) := by decide +kernel
theorem dX9_kinds_152 : decode cX9_kinds 152 = .ok (.getfield 16, 3) := by decide +kernel
theorem dX9_kinds_155 : decode cX9_kinds 155 = .ok (.iload 7, 2) := by decide +kernel
theorem dX9_kinds_157 : decode cX9_kinds 157 = .ok (.iconst 2, 1) := by decide +kernel
theorem dX9_kinds_158 : decode cX9_kinds 158 = .ok (.iload 11, 2) := by decide +kernel
theorem dX9_kinds_160 : decode cX9_kinds 160 = .ok (.imul, 1) := by decide +kernel
theorem dX9_kinds_161 : decode cX9_kinds 161 = .ok (.iadd, 1) := by decide +kernel
theorem dX9_kinds_162 : decode cX9_kinds 162 = .ok (.iconst 1, 1) := by decide +kernel
theorem dX9_kinds_163 : decode cX9_kinds 163 = .ok (.iadd, 1) := by decide +kernel
theorem dX9_kinds_164 : decode cX9_kinds 164 = .ok (.laload, 1) := by decide +kernel
theorem dX9_kinds_165 : decode cX9_kinds 165 = .ok (.lcmp, 1) := by decide +kernel
theorem dX9_kinds_166 : decode cX9_kinds 166 = .ok (.ifCond .ne 7, 3) := by decide +kernel
theorem dX9_kinds_169 : decode cX9_kinds 169 = .ok (.iconst 1, 1) := by decide +kernel
theorem dX9_kinds_170 : decode cX9_kinds 170 = .ok (.goto 4, 3) := by decide +kernel
theorem dX9_kinds_173 : decode cX9_kinds 173 = .ok (.iconst 0, 1) := by decide +kernel
theorem dX9_kinds_174 : decode cX9_kinds 174 = .ok (.istore 10, 2) := by decide +kernel
theorem dX9_kinds_176 : decode cX9_kinds 176 = .ok (.iinc 11 1, 3) := by decide +kernel
theorem dX9_kinds_179 : decode cX9_kinds 179 = .ok (.goto (-74), 3) := by decide +kernel
theorem dX9_kinds_182 : decode cX9_kinds 182 = .ok (.iload 8, 2) := by decide +kernel
theorem dX9_kinds_184 : decode cX9_kinds 184 = .ok (.iload 10, 2) := by decide +kernel
theorem dX9_kinds_186 : decode cX9_kinds 186 = .ok (.ifCond .eq 10, 3) := by decide +kernel
theorem dX9_kinds_189 : decode cX9_kinds 189 = .ok (.iconst 1, 1) := by decide +kernel
theorem dX9_kinds_190 : decode cX9_kinds 190 = .ok (.iload 9, 2) := by decide +kernel
theorem dX9_kinds_192 : decode cX9_kinds 192 = .ok (.ishl, 1) := by decide +kernel
theorem dX9_kinds_193 : decode cX9_kinds 193 = .ok (.goto 4, 3) := by decide +kernel
theorem dX9_kinds_196 : decode cX9_kinds 196 = .ok (.iconst 0, 1) := by decide +kernel
theorem dX9_kinds_197 : decode cX9_kinds 197 = .ok (.ior, 1) := by decide +kernel
theorem dX9_kinds_198 : decode cX9_kinds 198 = .ok (.istore 8, 2) := by decide +kernel
theorem dX9_kinds_200 : decode cX9_kinds 200 = .ok (.iinc 9 1, 3) := by decide +kernel
theorem dX9_kinds_203 : decode cX9_kinds 203 = .ok (.goto (-110), 3) := by decide +kernel
theorem dX9_kinds_206 : decode cX9_kinds 206 = .ok (.iload 8, 2) := by decide +kernel
theorem dX9_kinds_208 : decode cX9_kinds 208 = .ok (.ireturn, 1) := by decide +kernel
def R_X9_kinds (a1 : Int32) (a2 : Int32) (a3 : Int32) (a4 : Int32) (a5 : Int32) (σ : kS) (x : Int32) (τ : kS) : Prop := Run SM jX9_kinds [(.ref 0), (.int a1), (.int a2), (.int a3), (.int a4), (.int a5)] σ (some (.int x)) τ
def E_X9_kinds_93 (l1 : Int32) (l5 : Int32) (l7 : Int32) (l8 : Int32) (l9 : Int32) (σ : kS) (x : Int32) (τ : kS) : Prop := Ex SM jX9_kinds 93 [some (.ref 0), some (.int l1), none, none, none, some (.int l5), none, some (.int l7), some (.int l8), some (.int l9), none, none, none] [] σ (some (.int x)) τ
def E_X9_kinds_105 (l1 : Int32) (l5 : Int32) (l7 : Int32) (l8 : Int32) (l9 : Int32) (l10 : Int32) (l11 : Int32) (σ : kS) (x : Int32) (τ : kS) : Prop := Ex SM jX9_kinds 105 [some (.ref 0), some (.int l1), none, none, none, some (.int l5), none, some (.int l7), some (.int l8), some (.int l9), some (.int l10), some (.int l11), none] [] σ (some (.int x)) τ
def E_X9_kinds_182 (l1 : Int32) (l5 : Int32) (l7 : Int32) (l8 : Int32) (l9 : Int32) (l10 : Int32) (σ : kS) (x : Int32) (τ : kS) : Prop := Ex SM jX9_kinds 182 [some (.ref 0), some (.int l1), none, none, none, some (.int l5), none, some (.int l7), some (.int l8), some (.int l9), some (.int l10), none, none] [] σ (some (.int x)) τ
set_option maxRecDepth 20000 in
theorem t_X9_kinds {a1 : Int32} {a2 : Int32} {a3 : Int32} {a4 : Int32} {a5 : Int32} {σ : kS} {x : Int32} {τ : kS}  (h : (¬ (iv a1 0 ((σ.1 5 3) - 1)) → x = (-1 : Int32) ∧ τ = σ) ∧ ((iv a1 0 ((σ.1 5 3) - 1)) → (¬ (iv a2 0 3) → x = (-1 : Int32) ∧ τ = σ) ∧ ((iv a2 0 3) → (¬ (iv a3 (0 : Int32) (3 : Int32)) → x = (-1 : Int32) ∧ τ = σ) ∧ ((iv a3 (0 : Int32) (3 : Int32)) → ((iv a5 (1 : Int32) (6 : Int32)) → ∃ (x6 : Int32) (s5 : kS), R_X9_badRow a2 a3 a4 ((2 : Int32) * a5) σ x6 s5 ∧ ((x6 = 0 → ∃ (x9 : Int32) (s8 : kS), R_X9_areBelow (((24 : Int32) * a2) + a4) a5 (4096 : Int32) (13 : Int32) s5 x9 s8 ∧ ((¬ x9 = 0 → E_X9_kinds_93 a1 a5 (((24 : Int32) * a2) + a4) (0 : Int32) (1 : Int32) s8 x τ) ∧ (x9 = 0 → x = (-2 : Int32) ∧ τ = s8))) ∧ (¬ x6 = 0 → x = x6 ∧ τ = s5))) ∧ (¬ (iv a5 (1 : Int32) (6 : Int32)) → x = (-1 : Int32) ∧ τ = σ))))) : R_X9_kinds a1 a2 a3 a4 a5 σ x τ := by
  refine x_run [some (.ref 0), some (.int a1), some (.int a2), some (.int a3), some (.int a4), some (.int a5), none, none, none, none, none, none, none] (by decide +kernel) rfl (Nat.le_of_ble_eq_true rfl) ?_
  refine x_aload_n (pc := 0) 0 dX9_kinds_0 rfl rfl ?_
  refine x_iload_n (pc := 1) 1 dX9_kinds_1 rfl rfl ?_
  refine x_callV (pc := 2) [(.int a1)] [] dX9_kinds_2 ⟨⟨hX9_isOne.1, hX9_isOne.2.1, hX9_isOne.2.2, by decide⟩, mX9_130, vX9_isOne.1, vX9_isOne.2⟩ (ci := 9) rfl rfl rfl rfl (Nat.le_of_ble_eq_true rfl) (i_X9_isOne) ?_
  refine x_bif_eq (pc := 5) 35 dX9_kinds_5 (by decide) (fun c1 => ?_) (fun c1 => ?_)
  · replace h := h.1 c1
    refine x_iconst (pc := 35) (-1 : Int32) dX9_kinds_35 (by decide +kernel) ?_
    exact x_ireturn2 (pc := 36) dX9_kinds_36 rfl h.1 h.2
  · replace h := h.2 c1
    refine x_iload_n (pc := 8) 2 dX9_kinds_8 rfl rfl ?_
    refine x_callS (pc := 9) [(.int a2)] [] dX9_kinds_9 ⟨⟨hX9_isSheet.1, hX9_isSheet.2.1, hX9_isSheet.2.2, by decide⟩, mX9_207, sX9_isSheet⟩ rfl rfl (Nat.le_of_ble_eq_true rfl) (i_X9_isSheet) ?_
    refine x_bif_eq (pc := 12) 35 dX9_kinds_12 (by decide) (fun c2 => ?_) (fun c2 => ?_)
    · replace h := h.1 c2
      refine x_iconst (pc := 35) (-1 : Int32) dX9_kinds_35 (by decide +kernel) ?_
      exact x_ireturn2 (pc := 36) dX9_kinds_36 rfl h.1 h.2
    · replace h := h.2 c2
      refine x_iload_n (pc := 15) 3 dX9_kinds_15 rfl rfl ?_
      refine x_iconst (pc := 16) (0 : Int32) dX9_kinds_16 (by decide +kernel) ?_
      refine x_iconst (pc := 17) (3 : Int32) dX9_kinds_17 (by decide +kernel) ?_
      refine x_callS (pc := 18) [(.int a3), (.int (0 : Int32)), (.int (3 : Int32))] [] dX9_kinds_18 ⟨⟨hX9_in.1, hX9_in.2.1, hX9_in.2.2, by decide⟩, mX9_54, sX9_in⟩ rfl rfl (Nat.le_of_ble_eq_true rfl) (i_X9_in) ?_
      refine x_bif_eq (pc := 21) 35 dX9_kinds_21 (by decide) (fun c3 => ?_) (fun c3 => ?_)
      · replace h := h.1 c3
        refine x_iconst (pc := 35) (-1 : Int32) dX9_kinds_35 (by decide +kernel) ?_
        exact x_ireturn2 (pc := 36) dX9_kinds_36 rfl h.1 h.2
      · replace h := h.2 c3
        refine x_iload (pc := 24) dX9_kinds_24 rfl ?_
        refine x_iconst (pc := 26) (1 : Int32) dX9_kinds_26 (by decide +kernel) ?_
        refine x_bipush (pc := 27) (6 : Int32) dX9_kinds_27 (by decide +kernel) ?_
        refine x_callS (pc := 29) [(.int a5), (.int (1 : Int32)), (.int (6 : Int32))] [] dX9_kinds_29 ⟨⟨hX9_in.1, hX9_in.2.1, hX9_in.2.2, by decide⟩, mX9_54, sX9_in⟩ rfl rfl (Nat.le_of_ble_eq_true rfl) (i_X9_in) ?_
        refine x_bif_ne (pc := 32) 37 dX9_kinds_32 (by decide) (fun c4 => ?_) (fun c4 => ?_)
        · replace h := h.1 c4
          refine x_aload_n (pc := 37) 0 dX9_kinds_37 rfl rfl ?_
          refine x_iload_n (pc := 38) 2 dX9_kinds_38 rfl rfl ?_
          refine x_iload_n (pc := 39) 3 dX9_kinds_39 rfl rfl ?_
          refine x_iload (pc := 40) dX9_kinds_40 rfl ?_
          refine x_iconst (pc := 42) (2 : Int32) dX9_kinds_42 (by decide +kernel) ?_
          refine x_iload (pc := 43) dX9_kinds_43 rfl ?_
          refine x_imul (pc := 45) dX9_kinds_45 ?_
          obtain ⟨x6, s5, hr, h⟩ := h
          refine x_callV (pc := 46) [(.int a2), (.int a3), (.int a4), (.int ((2 : Int32) * a5))] [] dX9_kinds_46 ⟨⟨hX9_badRow.1, hX9_badRow.2.1, hX9_badRow.2.2, by decide⟩, mX9_212, vX9_badRow.1, vX9_badRow.2⟩ (ci := 9) rfl rfl rfl rfl (Nat.le_of_ble_eq_true rfl) hr ?_
          refine x_istore (pc := 49) dX9_kinds_49 (by decide) rfl ?_
          refine x_iload (pc := 51) dX9_kinds_51 rfl ?_
          refine x_if_eq (pc := 53) 59 dX9_kinds_53 (by decide) (fun c7 => ?_) (fun c7 => ?_)
          · replace h := h.1 c7
            refine x_bipush (pc := 59) (24 : Int32) dX9_kinds_59 (by decide +kernel) ?_
            refine x_iload_n (pc := 61) 2 dX9_kinds_61 rfl rfl ?_
            refine x_imul (pc := 62) dX9_kinds_62 ?_
            refine x_iload (pc := 63) dX9_kinds_63 rfl ?_
            refine x_iadd (pc := 65) dX9_kinds_65 ?_
            refine x_istore (pc := 66) dX9_kinds_66 (by decide) rfl ?_
            refine x_aload_n (pc := 68) 0 dX9_kinds_68 rfl rfl ?_
            refine x_iload (pc := 69) dX9_kinds_69 rfl ?_
            refine x_iload (pc := 71) dX9_kinds_71 rfl ?_
            refine x_sipush (pc := 73) (4096 : Int32) dX9_kinds_73 (by decide +kernel) ?_
            refine x_bipush (pc := 76) (13 : Int32) dX9_kinds_76 (by decide +kernel) ?_
            obtain ⟨x9, s8, hr, h⟩ := h
            refine x_callV (pc := 78) [(.int (((24 : Int32) * a2) + a4)), (.int a5), (.int (4096 : Int32)), (.int (13 : Int32))] [] dX9_kinds_78 ⟨⟨hX9_areBelow.1, hX9_areBelow.2.1, hX9_areBelow.2.2, by decide⟩, mX9_223, vX9_areBelow.1, vX9_areBelow.2⟩ (ci := 9) rfl rfl rfl rfl (Nat.le_of_ble_eq_true rfl) hr ?_
            refine x_if_ne (pc := 81) 87 dX9_kinds_81 (by decide) (fun c10 => ?_) (fun c10 => ?_)
            · replace h := h.1 c10
              refine x_iconst (pc := 87) (0 : Int32) dX9_kinds_87 (by decide +kernel) ?_
              refine x_istore (pc := 88) dX9_kinds_88 (by decide) rfl ?_
              refine x_iconst (pc := 90) (1 : Int32) dX9_kinds_90 (by decide +kernel) ?_
              refine x_istore (pc := 91) dX9_kinds_91 (by decide) rfl ?_
              exact x_mask [true, true, false, false, false, true, false, true, true, true, false, false, false] h
            · replace h := h.2 c10
              refine x_bipush (pc := 84) (-2 : Int32) dX9_kinds_84 (by decide +kernel) ?_
              exact x_ireturn2 (pc := 86) dX9_kinds_86 rfl h.1 h.2
          · replace h := h.2 c7
            refine x_iload (pc := 56) dX9_kinds_56 rfl ?_
            exact x_ireturn2 (pc := 58) dX9_kinds_58 rfl h.1 h.2
        · replace h := h.2 c4
          refine x_iconst (pc := 35) (-1 : Int32) dX9_kinds_35 (by decide +kernel) ?_
          exact x_ireturn2 (pc := 36) dX9_kinds_36 rfl h.1 h.2
set_option maxRecDepth 20000 in
theorem t_X9_kinds_93 {l1 : Int32} {l5 : Int32} {l7 : Int32} {l8 : Int32} {l9 : Int32} {σ : kS} {x : Int32} {τ : kS}  (h : ((5 : Int32) < l9 → x = l8 ∧ τ = σ) ∧ (¬ (5 : Int32) < l9 → E_X9_kinds_105 l1 l5 l7 l8 l9 (1 : Int32) (0 : Int32) σ x τ)) : E_X9_kinds_93 l1 l5 l7 l8 l9 σ x τ := by
  unfold E_X9_kinds_93
  refine x_iload (pc := 93) dX9_kinds_93 rfl ?_
  refine x_iconst (pc := 95) (5 : Int32) dX9_kinds_95 (by decide +kernel) ?_
  refine x_icmp_gt (pc := 96) 206 dX9_kinds_96 (by decide) (fun c1 => ?_) (fun c1 => ?_)
  · replace h := h.1 c1
    refine x_iload (pc := 206) dX9_kinds_206 rfl ?_
    exact x_ireturn2 (pc := 208) dX9_kinds_208 rfl h.1 h.2
  · replace h := h.2 c1
    refine x_iconst (pc := 99) (1 : Int32) dX9_kinds_99 (by decide +kernel) ?_
    refine x_istore (pc := 100) dX9_kinds_100 (by decide) rfl ?_
    refine x_iconst (pc := 102) (0 : Int32) dX9_kinds_102 (by decide +kernel) ?_
    refine x_istore (pc := 103) dX9_kinds_103 (by decide) rfl ?_
    exact h
set_option maxRecDepth 20000 in
theorem t_X9_kinds_105 {l1 : Int32} {l5 : Int32} {l7 : Int32} {l8 : Int32} {l9 : Int32} {l10 : Int32} {l11 : Int32} {σ : kS} {x : Int32} {τ : kS}  (h : (l5 ≤ l11 → E_X9_kinds_182 l1 l5 l7 l8 l9 l10 σ x τ) ∧ (¬ l5 ≤ l11 → (l10 = 0 → E_X9_kinds_182 l1 l5 l7 l8 l9 l10 σ x τ) ∧ (¬ l10 = 0 → vp_in (l7 + ((2 : Int32) * l11)) 96 ∧ (∃ (x5 : Int32) (s4 : kS), R_X9_chordBy 5 (σ.2 3 (l7 + ((2 : Int32) * l11)).toNatClampNeg).toInt32 σ x5 s4 ∧ (∃ (x7 : Int32) (s6 : kS), R_X9_aloneSings l1 l9 (σ.2 3 (l7 + ((2 : Int32) * l11)).toNatClampNeg).toInt32 x5 s4 x7 s6 ∧ (vp_in ((l7 + ((2 : Int32) * l11)) + (1 : Int32)) 96 ∧ ((¬ (lg_cmp x7.toInt64 (s6.2 3 ((l7 + ((2 : Int32) * l11)) + (1 : Int32)).toNatClampNeg)) = 0 → E_X9_kinds_105 l1 l5 l7 l8 l9 (0 : Int32) (l11 + (1 : Int32)) s6 x τ) ∧ ((lg_cmp x7.toInt64 (s6.2 3 ((l7 + ((2 : Int32) * l11)) + (1 : Int32)).toNatClampNeg)) = 0 → E_X9_kinds_105 l1 l5 l7 l8 l9 (1 : Int32) (l11 + (1 : Int32)) s6 x τ)))))))) : E_X9_kinds_105 l1 l5 l7 l8 l9 l10 l11 σ x τ := by
  unfold E_X9_kinds_105
  refine x_iload (pc := 105) dX9_kinds_105 rfl ?_
  refine x_iload (pc := 107) dX9_kinds_107 rfl ?_
  refine x_icmp_ge (pc := 109) 182 dX9_kinds_109 (by decide) (fun c1 => ?_) (fun c1 => ?_)
  · replace h := h.1 c1
    exact x_mask [true, true, false, false, false, true, false, true, true, true, true, false, false] h
  · replace h := h.2 c1
    refine x_iload (pc := 112) dX9_kinds_112 rfl ?_
    refine x_if_eq (pc := 114) 182 dX9_kinds_114 (by decide) (fun c2 => ?_) (fun c2 => ?_)
    · replace h := h.1 c2
      exact x_mask [true, true, false, false, false, true, false, true, true, true, true, false, false] h
    · replace h := h.2 c2
      refine x_aload_n (pc := 117) 0 dX9_kinds_117 rfl rfl ?_
      refine x_getR (pc := 118) dX9_kinds_118 fX9_16 rfl rfl ?_
      refine x_iload (pc := 121) dX9_kinds_121 rfl ?_
      refine x_iconst (pc := 123) (2 : Int32) dX9_kinds_123 (by decide +kernel) ?_
      refine x_iload (pc := 124) dX9_kinds_124 rfl ?_
      refine x_imul (pc := 126) dX9_kinds_126 ?_
      refine x_iadd (pc := 127) dX9_kinds_127 ?_
      obtain ⟨g3, h⟩ := h
      refine x_laload (pc := 128) (n := 96) dX9_kinds_128 rfl g3 ?_
      refine x_l2i (pc := 129) dX9_kinds_129 ?_
      refine x_istore (pc := 130) dX9_kinds_130 (by decide) rfl ?_
      refine x_aload_n (pc := 132) 0 dX9_kinds_132 rfl rfl ?_
      refine x_iload_n (pc := 133) 1 dX9_kinds_133 rfl rfl ?_
      refine x_iload (pc := 134) dX9_kinds_134 rfl ?_
      refine x_iload (pc := 136) dX9_kinds_136 rfl ?_
      refine x_aload_n (pc := 138) 0 dX9_kinds_138 rfl rfl ?_
      refine x_getR (pc := 139) dX9_kinds_139 fX9_23 rfl rfl ?_
      refine x_iload (pc := 142) dX9_kinds_142 rfl ?_
      obtain ⟨x5, s4, hr, h⟩ := h
      refine x_callS (pc := 144) [(.ref 5), (.int (σ.2 3 (l7 + ((2 : Int32) * l11)).toNatClampNeg).toInt32)] [(.int (σ.2 3 (l7 + ((2 : Int32) * l11)).toNatClampNeg).toInt32), (.int l9), (.int l1), (.ref 0)] dX9_kinds_144 ⟨⟨hX9_chordBy.1, hX9_chordBy.2.1, hX9_chordBy.2.2, by decide⟩, mX9_113, sX9_chordBy⟩ rfl rfl (Nat.le_of_ble_eq_true rfl) hr ?_
      obtain ⟨x7, s6, hr, h⟩ := h
      refine x_callV (pc := 147) [(.int l1), (.int l9), (.int (σ.2 3 (l7 + ((2 : Int32) * l11)).toNatClampNeg).toInt32), (.int x5)] [] dX9_kinds_147 ⟨⟨hX9_aloneSings.1, hX9_aloneSings.2.1, hX9_aloneSings.2.2, by decide⟩, mX9_220, vX9_aloneSings.1, vX9_aloneSings.2⟩ (ci := 9) rfl rfl rfl rfl (Nat.le_of_ble_eq_true rfl) hr ?_
      refine x_i2l (pc := 150) dX9_kinds_150 ?_
      refine x_aload_n (pc := 151) 0 dX9_kinds_151 rfl rfl ?_
      refine x_getR (pc := 152) dX9_kinds_152 fX9_16 rfl rfl ?_
      refine x_iload (pc := 155) dX9_kinds_155 rfl ?_
      refine x_iconst (pc := 157) (2 : Int32) dX9_kinds_157 (by decide +kernel) ?_
      refine x_iload (pc := 158) dX9_kinds_158 rfl ?_
      refine x_imul (pc := 160) dX9_kinds_160 ?_
      refine x_iadd (pc := 161) dX9_kinds_161 ?_
      refine x_iconst (pc := 162) (1 : Int32) dX9_kinds_162 (by decide +kernel) ?_
      refine x_iadd (pc := 163) dX9_kinds_163 ?_
      obtain ⟨g8, h⟩ := h
      refine x_laload (pc := 164) (n := 96) dX9_kinds_164 rfl g8 ?_
      refine x_lcmp (pc := 165) dX9_kinds_165 ?_
      refine x_if_ne (pc := 166) 173 dX9_kinds_166 (by decide) (fun c9 => ?_) (fun c9 => ?_)
      · replace h := h.1 c9
        refine x_iconst (pc := 173) (0 : Int32) dX9_kinds_173 (by decide +kernel) ?_
        refine x_istore (pc := 174) dX9_kinds_174 (by decide) rfl ?_
        refine x_iinc (pc := 176) (1 : Int32) dX9_kinds_176 (by decide) rfl rfl (by decide +kernel) ?_
        refine x_goto (pc := 179) 105 dX9_kinds_179 (by decide) ?_
        exact x_mask [true, true, false, false, false, true, false, true, true, true, true, true, false] h
      · replace h := h.2 c9
        refine x_iconst (pc := 169) (1 : Int32) dX9_kinds_169 (by decide +kernel) ?_
        refine x_goto (pc := 170) 174 dX9_kinds_170 (by decide) ?_
        refine x_istore (pc := 174) dX9_kinds_174 (by decide) rfl ?_
        refine x_iinc (pc := 176) (1 : Int32) dX9_kinds_176 (by decide) rfl rfl (by decide +kernel) ?_
        refine x_goto (pc := 179) 105 dX9_kinds_179 (by decide) ?_
        exact x_mask [true, true, false, false, false, true, false, true, true, true, true, true, false] h
set_option maxRecDepth 20000 in
theorem t_X9_kinds_182 {l1 : Int32} {l5 : Int32} {l7 : Int32} {l8 : Int32} {l9 : Int32} {l10 : Int32} {σ : kS} {x : Int32} {τ : kS}  (h : (l10 = 0 → E_X9_kinds_93 l1 l5 l7 (l8 ||| (0 : Int32)) (l9 + (1 : Int32)) σ x τ) ∧ (¬ l10 = 0 → E_X9_kinds_93 l1 l5 l7 (l8 ||| ((1 : Int32) <<< (l9 &&& 31))) (l9 + (1 : Int32)) σ x τ)) : E_X9_kinds_182 l1 l5 l7 l8 l9 l10 σ x τ := by
  unfold E_X9_kinds_182
  refine x_iload (pc := 182) dX9_kinds_182 rfl ?_
  refine x_iload (pc := 184) dX9_kinds_184 rfl ?_
  refine x_if_eq (pc := 186) 196 dX9_kinds_186 (by decide) (fun c1 => ?_) (fun c1 => ?_)
  · replace h := h.1 c1
    refine x_iconst (pc := 196) (0 : Int32) dX9_kinds_196 (by decide +kernel) ?_
    refine x_ior (pc := 197) dX9_kinds_197 ?_
    refine x_istore (pc := 198) dX9_kinds_198 (by decide) rfl ?_
    refine x_iinc (pc := 200) (1 : Int32) dX9_kinds_200 (by decide) rfl rfl (by decide +kernel) ?_
    refine x_goto (pc := 203) 93 dX9_kinds_203 (by decide) ?_
    exact x_mask [true, true, false, false, false, true, false, true, true, true, false, false, false] h
  · replace h := h.2 c1
    refine x_iconst (pc := 189) (1 : Int32) dX9_kinds_189 (by decide +kernel) ?_
    refine x_iload (pc := 190) dX9_kinds_190 rfl ?_
    refine x_ishl (pc := 192) dX9_kinds_192 ?_
    refine x_goto (pc := 193) 197 dX9_kinds_193 (by decide) ?_
    refine x_ior (pc := 197) dX9_kinds_197 ?_
    refine x_istore (pc := 198) dX9_kinds_198 (by decide) rfl ?_
    refine x_iinc (pc := 200) (1 : Int32) dX9_kinds_200 (by decide) rfl rfl (by decide +kernel) ?_
    refine x_goto (pc := 203) 93 dX9_kinds_203 (by decide) ?_
    exact x_mask [true, true, false, false, false, true, false, true, true, true, false, false, false] h
theorem dX9_fieldsWith_0 : decode cX9_fieldsWith 0 = .ok (.iconst 0, 1) := by decide +kernel
theorem dX9_fieldsWith_1 : decode cX9_fieldsWith 1 = .ok (.istore_n 2, 1) := by decide +kernel
theorem dX9_fieldsWith_2 : decode cX9_fieldsWith 2 = .ok (.iconst 0, 1) := by decide +kernel
theorem dX9_fieldsWith_3 : decode cX9_fieldsWith 3 = .ok (.istore_n 3, 1) := by decide +kernel
theorem dX9_fieldsWith_4 : decode cX9_fieldsWith 4 = .ok (.iload_n 3, 1) := by decide +kernel
theorem dX9_fieldsWith_5 : decode cX9_fieldsWith 5 = .ok (.aload_n 0, 1) := by decide +kernel
theorem dX9_fieldsWith_6 : decode cX9_fieldsWith 6 = .ok (.getfield 23, 3) := by decide +kernel
theorem dX9_fieldsWith_9 : decode cX9_fieldsWith 9 = .ok (.iconst 2, 1) := by decide +kernel
theorem dX9_fieldsWith_10 : decode cX9_fieldsWith 10 = .ok (.iaload, 1) := by decide +kernel
theorem dX9_fieldsWith_11 : decode cX9_fieldsWith 11 = .ok (.if_icmp .ge 79, 3) := by decide +kernel
theorem dX9_fieldsWith_14 : decode cX9_fieldsWith 14 = .ok (.aload_n 0, 1) := by decide +kernel
theorem dX9_fieldsWith_15 : decode cX9_fieldsWith 15 = .ok (.getfield 23, 3) := by decide +kernel
theorem dX9_fieldsWith_18 : decode cX9_fieldsWith 18 = .ok (.aload_n 0, 1) := by decide +kernel
theorem dX9_fieldsWith_19 : decode cX9_fieldsWith 19 = .ok (.getfield 23, 3) := by decide +kernel
theorem dX9_fieldsWith_22 : decode cX9_fieldsWith 22 = .ok (.bipush 8, 2) := by decide +kernel
theorem dX9_fieldsWith_24 : decode cX9_fieldsWith 24 = .ok (.iload_n 3, 1) := by decide +kernel
theorem dX9_fieldsWith_25 : decode cX9_fieldsWith 25 = .ok (.iadd, 1) := by decide +kernel
theorem dX9_fieldsWith_26 : decode cX9_fieldsWith 26 = .ok (.iaload, 1) := by decide +kernel
theorem dX9_fieldsWith_27 : decode cX9_fieldsWith 27 = .ok (.invokestatic 113, 3) := by decide +kernel
theorem dX9_fieldsWith_30 : decode cX9_fieldsWith 30 = .ok (.istore 4, 2) := by decide +kernel
theorem dX9_fieldsWith_32 : decode cX9_fieldsWith 32 = .ok (.iload 4, 2) := by decide +kernel
theorem dX9_fieldsWith_34 : decode cX9_fieldsWith 34 = .ok (.ifCond .lt 32, 3) := by decide +kernel
theorem dX9_fieldsWith_37 : decode cX9_fieldsWith 37 = .ok (.iload_n 1, 1) := by decide +kernel
theorem dX9_fieldsWith_38 : decode cX9_fieldsWith 38 = .ok (.ifCond .eq 24, 3) := by decide +kernel
theorem dX9_fieldsWith_41 : decode cX9_fieldsWith 41 = .ok (.aload_n 0, 1) := by decide +kernel
theorem dX9_fieldsWith_42 : decode cX9_fieldsWith 42 = .ok (.getfield 23, 3) := by decide +kernel
theorem dX9_fieldsWith_45 : decode cX9_fieldsWith 45 = .ok (.aload_n 0, 1) := by decide +kernel
theorem dX9_fieldsWith_46 : decode cX9_fieldsWith 46 = .ok (.getfield 23, 3) := by decide +kernel
theorem dX9_fieldsWith_49 : decode cX9_fieldsWith 49 = .ok (.bipush 8, 2) := by decide +kernel
theorem dX9_fieldsWith_51 : decode cX9_fieldsWith 51 = .ok (.iload_n 3, 1) := by decide +kernel
theorem dX9_fieldsWith_52 : decode cX9_fieldsWith 52 = .ok (.iadd, 1) := by decide +kernel
theorem dX9_fieldsWith_53 : decode cX9_fieldsWith 53 = .ok (.iaload, 1) := by decide +kernel
theorem dX9_fieldsWith_54 : decode cX9_fieldsWith 54 = .ok (.iload 4, 2) := by decide +kernel
theorem dX9_fieldsWith_56 : decode cX9_fieldsWith 56 = .ok (.invokestatic 117, 3) := by decide +kernel
theorem dX9_fieldsWith_59 : decode cX9_fieldsWith 59 = .ok (.ifCond .ne 7, 3) := by decide +kernel
theorem dX9_fieldsWith_62 : decode cX9_fieldsWith 62 = .ok (.iconst 1, 1) := by decide +kernel
theorem dX9_fieldsWith_63 : decode cX9_fieldsWith 63 = .ok (.goto 4, 3) := by decide +kernel
theorem dX9_fieldsWith_66 : decode cX9_fieldsWith 66 = .ok (.iconst 0, 1) := by decide +kernel
theorem dX9_fieldsWith_67 : decode cX9_fieldsWith 67 = .ok (.istore 5, 2) := by decide +kernel
theorem dX9_fieldsWith_69 : decode cX9_fieldsWith 69 = .ok (.iload_n 2, 1) := by decide +kernel
theorem dX9_fieldsWith_70 : decode cX9_fieldsWith 70 = .ok (.iload 5, 2) := by decide +kernel
theorem dX9_fieldsWith_72 : decode cX9_fieldsWith 72 = .ok (.ifCond .eq 9, 3) := by decide +kernel
theorem dX9_fieldsWith_75 : decode cX9_fieldsWith 75 = .ok (.iconst 1, 1) := by decide +kernel
theorem dX9_fieldsWith_76 : decode cX9_fieldsWith 76 = .ok (.iload_n 3, 1) := by decide +kernel
theorem dX9_fieldsWith_77 : decode cX9_fieldsWith 77 = .ok (.ishl, 1) := by decide +kernel
theorem dX9_fieldsWith_78 : decode cX9_fieldsWith 78 = .ok (.goto 4, 3) := by decide +kernel
theorem dX9_fieldsWith_81 : decode cX9_fieldsWith 81 = .ok (.iconst 0, 1) := by decide +kernel
theorem dX9_fieldsWith_82 : decode cX9_fieldsWith 82 = .ok (.ior, 1) := by decide +kernel
theorem dX9_fieldsWith_83 : decode cX9_fieldsWith 83 = .ok (.istore_n 2, 1) := by decide +kernel
theorem dX9_fieldsWith_84 : decode cX9_fieldsWith 84 = .ok (.iinc 3 1, 3) := by decide +kernel
theorem dX9_fieldsWith_87 : decode cX9_fieldsWith 87 = .ok (.goto (-83), 3) := by decide +kernel
theorem dX9_fieldsWith_90 : decode cX9_fieldsWith 90 = .ok (.iload_n 2, 1) := by decide +kernel
theorem dX9_fieldsWith_91 : decode cX9_fieldsWith 91 = .ok (.ireturn, 1) := by decide +kernel
def R_X9_fieldsWith (a1 : Int32) (σ : kS) (x : Int32) (τ : kS) : Prop := Run SM jX9_fieldsWith [(.ref 0), (.int a1)] σ (some (.int x)) τ
def E_X9_fieldsWith_4 (l1 : Int32) (l2 : Int32) (l3 : Int32) (σ : kS) (x : Int32) (τ : kS) : Prop := Ex SM jX9_fieldsWith 4 [some (.ref 0), some (.int l1), some (.int l2), some (.int l3), none, none] [] σ (some (.int x)) τ
def E_X9_fieldsWith_67 (l1 : Int32) (l2 : Int32) (l3 : Int32) (y0 : Int32) (σ : kS) (x : Int32) (τ : kS) : Prop := Ex SM jX9_fieldsWith 67 [some (.ref 0), some (.int l1), some (.int l2), some (.int l3), none, none] [(.int y0)] σ (some (.int x)) τ
set_option maxRecDepth 20000 in
theorem t_X9_fieldsWith {a1 : Int32} {σ : kS} {x : Int32} {τ : kS}  (h : E_X9_fieldsWith_4 a1 (0 : Int32) (0 : Int32) σ x τ) : R_X9_fieldsWith a1 σ x τ := by
  refine x_run [some (.ref 0), some (.int a1), none, none, none, none] (by decide +kernel) rfl (Nat.le_of_ble_eq_true rfl) ?_
  refine x_iconst (pc := 0) (0 : Int32) dX9_fieldsWith_0 (by decide +kernel) ?_
  refine x_istore_n (pc := 1) 2 dX9_fieldsWith_1 rfl (by decide) rfl ?_
  refine x_iconst (pc := 2) (0 : Int32) dX9_fieldsWith_2 (by decide +kernel) ?_
  refine x_istore_n (pc := 3) 3 dX9_fieldsWith_3 rfl (by decide) rfl ?_
  exact h
set_option maxRecDepth 20000 in
theorem t_X9_fieldsWith_4 {l1 : Int32} {l2 : Int32} {l3 : Int32} {σ : kS} {x : Int32} {τ : kS}  (h : ((σ.1 5 2) ≤ l3 → x = l2 ∧ τ = σ) ∧ (¬ (σ.1 5 2) ≤ l3 → vp_in ((8 : Int32) + l3) 38 ∧ (∃ (x4 : Int32) (s3 : kS), R_X9_chordBy 5 (σ.1 5 ((8 : Int32) + l3).toNatClampNeg) σ x4 s3 ∧ ((x4 < 0 → E_X9_fieldsWith_67 l1 l2 l3 (0 : Int32) s3 x τ) ∧ (¬ x4 < 0 → (l1 = 0 → E_X9_fieldsWith_67 l1 l2 l3 (1 : Int32) s3 x τ) ∧ (¬ l1 = 0 → vp_in ((8 : Int32) + l3) 38 ∧ (∃ (x9 : Int32) (s8 : kS), R_X9_missingBy 5 (s3.1 5 ((8 : Int32) + l3).toNatClampNeg) x4 s3 x9 s8 ∧ ((¬ x9 = 0 → E_X9_fieldsWith_67 l1 l2 l3 (0 : Int32) s8 x τ) ∧ (x9 = 0 → E_X9_fieldsWith_67 l1 l2 l3 (1 : Int32) s8 x τ))))))))) : E_X9_fieldsWith_4 l1 l2 l3 σ x τ := by
  unfold E_X9_fieldsWith_4
  refine x_iload_n (pc := 4) 3 dX9_fieldsWith_4 rfl rfl ?_
  refine x_aload_n (pc := 5) 0 dX9_fieldsWith_5 rfl rfl ?_
  refine x_getR (pc := 6) dX9_fieldsWith_6 fX9_23 rfl rfl ?_
  refine x_iconst (pc := 9) (2 : Int32) dX9_fieldsWith_9 (by decide +kernel) ?_
  refine x_ialoadK (pc := 10) (n := 38) 2 dX9_fieldsWith_10 rfl (by decide) (by decide +kernel) ?_
  refine x_icmp_ge (pc := 11) 90 dX9_fieldsWith_11 (by decide) (fun c1 => ?_) (fun c1 => ?_)
  · replace h := h.1 c1
    refine x_iload_n (pc := 90) 2 dX9_fieldsWith_90 rfl rfl ?_
    exact x_ireturn2 (pc := 91) dX9_fieldsWith_91 rfl h.1 h.2
  · replace h := h.2 c1
    refine x_aload_n (pc := 14) 0 dX9_fieldsWith_14 rfl rfl ?_
    refine x_getR (pc := 15) dX9_fieldsWith_15 fX9_23 rfl rfl ?_
    refine x_aload_n (pc := 18) 0 dX9_fieldsWith_18 rfl rfl ?_
    refine x_getR (pc := 19) dX9_fieldsWith_19 fX9_23 rfl rfl ?_
    refine x_bipush (pc := 22) (8 : Int32) dX9_fieldsWith_22 (by decide +kernel) ?_
    refine x_iload_n (pc := 24) 3 dX9_fieldsWith_24 rfl rfl ?_
    refine x_iadd (pc := 25) dX9_fieldsWith_25 ?_
    obtain ⟨g2, h⟩ := h
    refine x_iaload (pc := 26) (n := 38) dX9_fieldsWith_26 rfl g2 ?_
    obtain ⟨x4, s3, hr, h⟩ := h
    refine x_callS (pc := 27) [(.ref 5), (.int (σ.1 5 ((8 : Int32) + l3).toNatClampNeg))] [] dX9_fieldsWith_27 ⟨⟨hX9_chordBy.1, hX9_chordBy.2.1, hX9_chordBy.2.2, by decide⟩, mX9_113, sX9_chordBy⟩ rfl rfl (Nat.le_of_ble_eq_true rfl) hr ?_
    refine x_istore (pc := 30) dX9_fieldsWith_30 (by decide) rfl ?_
    refine x_iload (pc := 32) dX9_fieldsWith_32 rfl ?_
    refine x_if_lt (pc := 34) 66 dX9_fieldsWith_34 (by decide) (fun c5 => ?_) (fun c5 => ?_)
    · replace h := h.1 c5
      refine x_iconst (pc := 66) (0 : Int32) dX9_fieldsWith_66 (by decide +kernel) ?_
      exact x_mask [true, true, true, true, false, false] h
    · replace h := h.2 c5
      refine x_iload_n (pc := 37) 1 dX9_fieldsWith_37 rfl rfl ?_
      refine x_if_eq (pc := 38) 62 dX9_fieldsWith_38 (by decide) (fun c6 => ?_) (fun c6 => ?_)
      · replace h := h.1 c6
        refine x_iconst (pc := 62) (1 : Int32) dX9_fieldsWith_62 (by decide +kernel) ?_
        refine x_goto (pc := 63) 67 dX9_fieldsWith_63 (by decide) ?_
        exact x_mask [true, true, true, true, false, false] h
      · replace h := h.2 c6
        refine x_aload_n (pc := 41) 0 dX9_fieldsWith_41 rfl rfl ?_
        refine x_getR (pc := 42) dX9_fieldsWith_42 fX9_23 rfl rfl ?_
        refine x_aload_n (pc := 45) 0 dX9_fieldsWith_45 rfl rfl ?_
        refine x_getR (pc := 46) dX9_fieldsWith_46 fX9_23 rfl rfl ?_
        refine x_bipush (pc := 49) (8 : Int32) dX9_fieldsWith_49 (by decide +kernel) ?_
        refine x_iload_n (pc := 51) 3 dX9_fieldsWith_51 rfl rfl ?_
        refine x_iadd (pc := 52) dX9_fieldsWith_52 ?_
        obtain ⟨g7, h⟩ := h
        refine x_iaload (pc := 53) (n := 38) dX9_fieldsWith_53 rfl g7 ?_
        refine x_iload (pc := 54) dX9_fieldsWith_54 rfl ?_
        obtain ⟨x9, s8, hr, h⟩ := h
        refine x_callS (pc := 56) [(.ref 5), (.int (s3.1 5 ((8 : Int32) + l3).toNatClampNeg)), (.int x4)] [] dX9_fieldsWith_56 ⟨⟨hX9_missingBy.1, hX9_missingBy.2.1, hX9_missingBy.2.2, by decide⟩, mX9_117, sX9_missingBy⟩ rfl rfl (Nat.le_of_ble_eq_true rfl) hr ?_
        refine x_if_ne (pc := 59) 66 dX9_fieldsWith_59 (by decide) (fun c10 => ?_) (fun c10 => ?_)
        · replace h := h.1 c10
          refine x_iconst (pc := 66) (0 : Int32) dX9_fieldsWith_66 (by decide +kernel) ?_
          exact x_mask [true, true, true, true, false, false] h
        · replace h := h.2 c10
          refine x_iconst (pc := 62) (1 : Int32) dX9_fieldsWith_62 (by decide +kernel) ?_
          refine x_goto (pc := 63) 67 dX9_fieldsWith_63 (by decide) ?_
          exact x_mask [true, true, true, true, false, false] h
set_option maxRecDepth 20000 in
theorem t_X9_fieldsWith_67 {l1 : Int32} {l2 : Int32} {l3 : Int32} {y0 : Int32} {σ : kS} {x : Int32} {τ : kS}  (h : (y0 = 0 → E_X9_fieldsWith_4 l1 (l2 ||| (0 : Int32)) (l3 + (1 : Int32)) σ x τ) ∧ (¬ y0 = 0 → E_X9_fieldsWith_4 l1 (l2 ||| ((1 : Int32) <<< (l3 &&& 31))) (l3 + (1 : Int32)) σ x τ)) : E_X9_fieldsWith_67 l1 l2 l3 y0 σ x τ := by
  unfold E_X9_fieldsWith_67
  refine x_istore (pc := 67) dX9_fieldsWith_67 (by decide) rfl ?_
  refine x_iload_n (pc := 69) 2 dX9_fieldsWith_69 rfl rfl ?_
  refine x_iload (pc := 70) dX9_fieldsWith_70 rfl ?_
  refine x_if_eq (pc := 72) 81 dX9_fieldsWith_72 (by decide) (fun c1 => ?_) (fun c1 => ?_)
  · replace h := h.1 c1
    refine x_iconst (pc := 81) (0 : Int32) dX9_fieldsWith_81 (by decide +kernel) ?_
    refine x_ior (pc := 82) dX9_fieldsWith_82 ?_
    refine x_istore_n (pc := 83) 2 dX9_fieldsWith_83 rfl (by decide) rfl ?_
    refine x_iinc (pc := 84) (1 : Int32) dX9_fieldsWith_84 (by decide) rfl rfl (by decide +kernel) ?_
    refine x_goto (pc := 87) 4 dX9_fieldsWith_87 (by decide) ?_
    exact x_mask [true, true, true, true, false, false] h
  · replace h := h.2 c1
    refine x_iconst (pc := 75) (1 : Int32) dX9_fieldsWith_75 (by decide +kernel) ?_
    refine x_iload_n (pc := 76) 3 dX9_fieldsWith_76 rfl rfl ?_
    refine x_ishl (pc := 77) dX9_fieldsWith_77 ?_
    refine x_goto (pc := 78) 82 dX9_fieldsWith_78 (by decide) ?_
    refine x_ior (pc := 82) dX9_fieldsWith_82 ?_
    refine x_istore_n (pc := 83) 2 dX9_fieldsWith_83 rfl (by decide) rfl ?_
    refine x_iinc (pc := 84) (1 : Int32) dX9_fieldsWith_84 (by decide) rfl rfl (by decide +kernel) ?_
    refine x_goto (pc := 87) 4 dX9_fieldsWith_87 (by decide) ?_
    exact x_mask [true, true, true, true, false, false] h
theorem dX9_count_0 : decode cX9_count 0 = .ok (.iload_n 1, 1) := by decide +kernel
theorem dX9_count_1 : decode cX9_count 1 = .ok (.tableswitch 109 0 8 #[51, 58, 65, 72, 79, 87, 93, 99, 104], 51) := by decide +kernel
theorem dX9_count_52 : decode cX9_count 52 = .ok (.aload_n 0, 1) := by decide +kernel
theorem dX9_count_53 : decode cX9_count 53 = .ok (.getfield 23, 3) := by decide +kernel
theorem dX9_count_56 : decode cX9_count 56 = .ok (.iconst 3, 1) := by decide +kernel
theorem dX9_count_57 : decode cX9_count 57 = .ok (.iaload, 1) := by decide +kernel
theorem dX9_count_58 : decode cX9_count 58 = .ok (.ireturn, 1) := by decide +kernel
theorem dX9_count_59 : decode cX9_count 59 = .ok (.aload_n 0, 1) := by decide +kernel
theorem dX9_count_60 : decode cX9_count 60 = .ok (.getfield 23, 3) := by decide +kernel
theorem dX9_count_63 : decode cX9_count 63 = .ok (.iconst 2, 1) := by decide +kernel
theorem dX9_count_64 : decode cX9_count 64 = .ok (.iaload, 1) := by decide +kernel
theorem dX9_count_65 : decode cX9_count 65 = .ok (.ireturn, 1) := by decide +kernel
theorem dX9_count_66 : decode cX9_count 66 = .ok (.aload_n 0, 1) := by decide +kernel
theorem dX9_count_67 : decode cX9_count 67 = .ok (.getfield 23, 3) := by decide +kernel
theorem dX9_count_70 : decode cX9_count 70 = .ok (.iconst 1, 1) := by decide +kernel
theorem dX9_count_71 : decode cX9_count 71 = .ok (.iaload, 1) := by decide +kernel
theorem dX9_count_72 : decode cX9_count 72 = .ok (.ireturn, 1) := by decide +kernel
theorem dX9_count_73 : decode cX9_count 73 = .ok (.aload_n 0, 1) := by decide +kernel
theorem dX9_count_74 : decode cX9_count 74 = .ok (.getfield 23, 3) := by decide +kernel
theorem dX9_count_77 : decode cX9_count 77 = .ok (.iconst 0, 1) := by decide +kernel
theorem dX9_count_78 : decode cX9_count 78 = .ok (.iaload, 1) := by decide +kernel
theorem dX9_count_79 : decode cX9_count 79 = .ok (.ireturn, 1) := by decide +kernel
theorem dX9_count_80 : decode cX9_count 80 = .ok (.aload_n 0, 1) := by decide +kernel
theorem dX9_count_81 : decode cX9_count 81 = .ok (.getfield 23, 3) := by decide +kernel
theorem dX9_count_84 : decode cX9_count 84 = .ok (.invokestatic 176, 3) := by decide +kernel
theorem dX9_count_87 : decode cX9_count 87 = .ok (.ireturn, 1) := by decide +kernel
theorem dX9_count_88 : decode cX9_count 88 = .ok (.aload_n 0, 1) := by decide +kernel
theorem dX9_count_89 : decode cX9_count 89 = .ok (.iconst 0, 1) := by decide +kernel
theorem dX9_count_90 : decode cX9_count 90 = .ok (.invokevirtual 236, 3) := by decide +kernel
theorem dX9_count_93 : decode cX9_count 93 = .ok (.ireturn, 1) := by decide +kernel
theorem dX9_count_94 : decode cX9_count 94 = .ok (.aload_n 0, 1) := by decide +kernel
theorem dX9_count_95 : decode cX9_count 95 = .ok (.iconst 1, 1) := by decide +kernel
theorem dX9_count_96 : decode cX9_count 96 = .ok (.invokevirtual 236, 3) := by decide +kernel
theorem dX9_count_99 : decode cX9_count 99 = .ok (.ireturn, 1) := by decide +kernel
theorem dX9_count_100 : decode cX9_count 100 = .ok (.aload_n 0, 1) := by decide +kernel
theorem dX9_count_101 : decode cX9_count 101 = .ok (.getfield 103, 3) := by decide +kernel
theorem dX9_count_104 : decode cX9_count 104 = .ok (.ireturn, 1) := by decide +kernel
theorem dX9_count_105 : decode cX9_count 105 = .ok (.aload_n 0, 1) := by decide +kernel
theorem dX9_count_106 : decode cX9_count 106 = .ok (.getfield 58, 3) := by decide +kernel
theorem dX9_count_109 : decode cX9_count 109 = .ok (.ireturn, 1) := by decide +kernel
theorem dX9_count_110 : decode cX9_count 110 = .ok (.iconst (-1), 1) := by decide +kernel
theorem dX9_count_111 : decode cX9_count 111 = .ok (.ireturn, 1) := by decide +kernel
def R_X9_count (a1 : Int32) (σ : kS) (x : Int32) (τ : kS) : Prop := Run SM jX9_count [(.ref 0), (.int a1)] σ (some (.int x)) τ
set_option maxRecDepth 20000 in
theorem t_X9_count {a1 : Int32} {σ : kS} {x : Int32} {τ : kS}  (h : (a1.toInt = 0 → x = (σ.1 5 3) ∧ τ = σ) ∧ (a1.toInt = 1 → x = (σ.1 5 2) ∧ τ = σ) ∧ (a1.toInt = 2 → x = (σ.1 5 1) ∧ τ = σ) ∧ (a1.toInt = 3 → x = (σ.1 5 0) ∧ τ = σ) ∧ (a1.toInt = 4 → ∃ (x3 : Int32) (s2 : kS), R_X9_tiredOf 5 σ x3 s2 ∧ (x = x3 ∧ τ = s2)) ∧ (a1.toInt = 5 → ∃ (x5 : Int32) (s4 : kS), R_X9_fieldsWith (0 : Int32) σ x5 s4 ∧ (x = x5 ∧ τ = s4)) ∧ (a1.toInt = 6 → ∃ (x7 : Int32) (s6 : kS), R_X9_fieldsWith (1 : Int32) σ x7 s6 ∧ (x = x7 ∧ τ = s6)) ∧ (a1.toInt = 7 → x = (σ.1 0 12) ∧ τ = σ) ∧ (a1.toInt = 8 → x = (σ.1 0 3) ∧ τ = σ) ∧ ((a1.toInt < 0 ∨ 8 < a1.toInt) → x = (-1 : Int32) ∧ τ = σ)) : R_X9_count a1 σ x τ := by
  refine x_run [some (.ref 0), some (.int a1)] (by decide +kernel) rfl (Nat.le_of_ble_eq_true rfl) ?_
  refine x_iload_n (pc := 0) 1 dX9_count_0 rfl rfl ?_
  refine x_table (pc := 1) 110 dX9_count_1 (by decide +kernel) (by decide +kernel) (by decide) (k_tb_cons (fun c1 => ?_) (k_tb_cons (fun c1 => ?_) (k_tb_cons (fun c1 => ?_) (k_tb_cons (fun c1 => ?_) (k_tb_cons (fun c1 => ?_) (k_tb_cons (fun c1 => ?_) (k_tb_cons (fun c1 => ?_) (k_tb_cons (fun c1 => ?_) (k_tb_cons (fun c1 => ?_) k_tb_nil))))))))) (fun c1 => ?_)
  · replace h := h.1 c1
    refine x_aload_n (pc := 52) 0 dX9_count_52 rfl rfl ?_
    refine x_getR (pc := 53) dX9_count_53 fX9_23 rfl rfl ?_
    refine x_iconst (pc := 56) (3 : Int32) dX9_count_56 (by decide +kernel) ?_
    refine x_ialoadK (pc := 57) (n := 38) 3 dX9_count_57 rfl (by decide) (by decide +kernel) ?_
    exact x_ireturn2 (pc := 58) dX9_count_58 rfl h.1 h.2
  · replace h := h.2.1 c1
    refine x_aload_n (pc := 59) 0 dX9_count_59 rfl rfl ?_
    refine x_getR (pc := 60) dX9_count_60 fX9_23 rfl rfl ?_
    refine x_iconst (pc := 63) (2 : Int32) dX9_count_63 (by decide +kernel) ?_
    refine x_ialoadK (pc := 64) (n := 38) 2 dX9_count_64 rfl (by decide) (by decide +kernel) ?_
    exact x_ireturn2 (pc := 65) dX9_count_65 rfl h.1 h.2
  · replace h := h.2.2.1 c1
    refine x_aload_n (pc := 66) 0 dX9_count_66 rfl rfl ?_
    refine x_getR (pc := 67) dX9_count_67 fX9_23 rfl rfl ?_
    refine x_iconst (pc := 70) (1 : Int32) dX9_count_70 (by decide +kernel) ?_
    refine x_ialoadK (pc := 71) (n := 38) 1 dX9_count_71 rfl (by decide) (by decide +kernel) ?_
    exact x_ireturn2 (pc := 72) dX9_count_72 rfl h.1 h.2
  · replace h := h.2.2.2.1 c1
    refine x_aload_n (pc := 73) 0 dX9_count_73 rfl rfl ?_
    refine x_getR (pc := 74) dX9_count_74 fX9_23 rfl rfl ?_
    refine x_iconst (pc := 77) (0 : Int32) dX9_count_77 (by decide +kernel) ?_
    refine x_ialoadK (pc := 78) (n := 38) 0 dX9_count_78 rfl (by decide) (by decide +kernel) ?_
    exact x_ireturn2 (pc := 79) dX9_count_79 rfl h.1 h.2
  · replace h := h.2.2.2.2.1 c1
    refine x_aload_n (pc := 80) 0 dX9_count_80 rfl rfl ?_
    refine x_getR (pc := 81) dX9_count_81 fX9_23 rfl rfl ?_
    obtain ⟨x3, s2, hr, h⟩ := h
    refine x_callS (pc := 84) [(.ref 5)] [] dX9_count_84 ⟨⟨hX9_tiredOf.1, hX9_tiredOf.2.1, hX9_tiredOf.2.2, by decide⟩, mX9_176, sX9_tiredOf⟩ rfl rfl (Nat.le_of_ble_eq_true rfl) hr ?_
    exact x_ireturn2 (pc := 87) dX9_count_87 rfl h.1 h.2
  · replace h := h.2.2.2.2.2.1 c1
    refine x_aload_n (pc := 88) 0 dX9_count_88 rfl rfl ?_
    refine x_iconst (pc := 89) (0 : Int32) dX9_count_89 (by decide +kernel) ?_
    obtain ⟨x5, s4, hr, h⟩ := h
    refine x_callV (pc := 90) [(.int (0 : Int32))] [] dX9_count_90 ⟨⟨hX9_fieldsWith.1, hX9_fieldsWith.2.1, hX9_fieldsWith.2.2, by decide⟩, mX9_236, vX9_fieldsWith.1, vX9_fieldsWith.2⟩ (ci := 9) rfl rfl rfl rfl (Nat.le_of_ble_eq_true rfl) hr ?_
    exact x_ireturn2 (pc := 93) dX9_count_93 rfl h.1 h.2
  · replace h := h.2.2.2.2.2.2.1 c1
    refine x_aload_n (pc := 94) 0 dX9_count_94 rfl rfl ?_
    refine x_iconst (pc := 95) (1 : Int32) dX9_count_95 (by decide +kernel) ?_
    obtain ⟨x7, s6, hr, h⟩ := h
    refine x_callV (pc := 96) [(.int (1 : Int32))] [] dX9_count_96 ⟨⟨hX9_fieldsWith.1, hX9_fieldsWith.2.1, hX9_fieldsWith.2.2, by decide⟩, mX9_236, vX9_fieldsWith.1, vX9_fieldsWith.2⟩ (ci := 9) rfl rfl rfl rfl (Nat.le_of_ble_eq_true rfl) hr ?_
    exact x_ireturn2 (pc := 99) dX9_count_99 rfl h.1 h.2
  · replace h := h.2.2.2.2.2.2.2.1 c1
    refine x_aload_n (pc := 100) 0 dX9_count_100 rfl rfl ?_
    refine x_getI (pc := 101) dX9_count_101 fX9_103 rfl rfl ?_
    exact x_ireturn2 (pc := 104) dX9_count_104 rfl h.1 h.2
  · replace h := h.2.2.2.2.2.2.2.2.1 c1
    refine x_aload_n (pc := 105) 0 dX9_count_105 rfl rfl ?_
    refine x_getI (pc := 106) dX9_count_106 fX9_58 rfl rfl ?_
    exact x_ireturn2 (pc := 109) dX9_count_109 rfl h.1 h.2
  · replace h := h.2.2.2.2.2.2.2.2.2 c1
    refine x_iconst (pc := 110) (-1 : Int32) dX9_count_110 (by decide +kernel) ?_
    exact x_ireturn2 (pc := 111) dX9_count_111 rfl h.1 h.2
